theorem inc1_eq {n a : Nat} (h : a < n) : inc1 n a = (a + 1) % n := by
  unfold inc1
  by_cases e : n ≤ a + 1
  · have : a + 1 = n := by omega
    rw [if_pos e, this, Nat.mod_self]
  · rw [if_neg e, Nat.mod_eq_of_lt (by omega)]
theorem inc1_lt {n a : Nat} (h : a < n) : inc1 n a < n := by unfold inc1; split <;> omega
def fd (v : q_VM) (j : Nat) (lg : Int32) (n : Nat) : Nat → Nat → Prop
  | 0, _ => False
  | f + 1, a => agn v j lg (inc1 n a) ∨ fd v j lg n f (inc1 n a)
theorem fd_of {v : q_VM} {j n : Nat} {lg : Int32} : ∀ (f a k : Nat), a < n → 1 ≤ k → k ≤ f → agn v j lg ((a + k) % n) → fd v j lg n f a := by
  intro f
  induction f with
  | zero => intro a k h1 h2 h3; omega
  | succ f ih =>
    intro a k h1 h2 h3 h4
    by_cases e : k = 1
    · subst e; exact Or.inl (by rw [inc1_eq h1]; exact h4)
    · refine Or.inr (ih (inc1 n a) (k - 1) (inc1_lt h1) (by omega) (by omega) ?_)
      rw [inc1_eq h1]
      have : ((a + 1) % n + (k - 1)) % n = (a + k) % n := by rw [Nat.mod_add_mod]; congr 1; omega
      rw [this]; exact h4
theorem fd_ex {v : q_VM} {j n a y : Nat} {lg : Int32} (ha : a < n) (hy : y < n) (h : agn v j lg y) : fd v j lg n n a := by
  by_cases e : a < y
  · refine fd_of n a (y - a) ha (by omega) (by omega) ?_
    rw [show a + (y - a) = y by omega, Nat.mod_eq_of_lt hy]; exact h
  · refine fd_of n a (y + n - a) ha (by omega) (by omega) ?_
    rw [show a + (y + n - a) = y + n by omega, Nat.add_mod_right, Nat.mod_eq_of_lt hy]; exact h
theorem nxo_agn {v : q_VM} {j n : Nat} {lg : Int32} : ∀ (f a : Nat), a < n → fd v j lg n f a → agn v j lg (nxo v j lg n f a) ∧ nxo v j lg n f a < n := by
  intro f
  induction f with
  | zero => intro a _ h; exact absurd h id
  | succ f ih =>
    intro a ha h
    unfold nxo
    by_cases e : agn v j lg (inc1 n a)
    · rw [if_pos e]; exact ⟨e, inc1_lt ha⟩
    · rw [if_neg e]; exact ih _ (inc1_lt ha) (h.resolve_left e)
theorem sum_pos {f : Nat → Int} : ∀ n, (∀ k, k < n → 0 ≤ f k) → 0 ≤ ((List.range n).map f).sum ∧ ((∃ k, k < n ∧ 0 < f k) → 0 < ((List.range n).map f).sum)
  | 0, _ => ⟨by simp, fun ⟨k, hk, _⟩ => by omega⟩
  | n + 1, h => by
    rw [List.range_succ, List.map_append, List.sum_append]
    simp only [List.map_singleton, List.sum_singleton]
    obtain ⟨h1, h2⟩ := sum_pos n (fun k hk => h k (by omega))
    have h3 := h n (by omega)
    refine ⟨by omega, fun ⟨k, hk, hp⟩ => ?_⟩
    by_cases e : k = n
    · subst e; omega
    · have := h2 ⟨k, by omega, hp⟩; omega
theorem sum_neg (f : Nat → Int) : ∀ n, ((List.range n).map fun k => - f k).sum = - ((List.range n).map f).sum
  | 0 => by simp
  | n + 1 => by
    rw [List.range_succ, List.map_append, List.map_append, List.sum_append, List.sum_append, sum_neg f n]
    simp only [List.map_singleton, List.sum_singleton]; omega
theorem opp_ex {v : q_VM} {B : Int} {x j : Nat} (h : IMb v B) (hx : x < 12) (hj : j < 6) (hw : (vPs v x j).toInt ≠ 0) : ∃ y, y < vN v ∧ agn v j (q_lgX (vPs v x j)) y := by
  obtain ⟨h1, h2, h3, h4, h5⟩ := h
  have hs := h5 j hj
  have z0 : (0 : Int32).toInt = 0 := rfl
  apply Classical.byContradiction
  intro hn
  have no : ∀ y, y < 12 → ¬ agn v j (q_lgX (vPs v x j)) y := by
    intro y hy ha
    by_cases e : y < vN v
    · exact hn ⟨y, e, ha⟩
    · have := (h2 y (by omega) hy).2.2.2.2 j hj
      unfold agn at ha
      rw [this, z0] at ha
      split at ha <;> omega
  unfold q_lgX at no
  by_cases e : vPs v x j ≤ 0
  · rw [if_pos e] at no
    rw [Int32.le_iff_toInt_le, z0] at e
    have nn : ∀ y, y < 12 → 0 ≤ - (vPs v y j).toInt := fun y hy => by have := no y hy; unfold agn at this; rw [if_pos rfl] at this; omega
    have := (sum_pos (f := fun y => - (vPs v y j).toInt) 12 nn).2 ⟨x, hx, by omega⟩
    rw [sum_neg (fun y => (vPs v y j).toInt)] at this; omega
  · rw [if_neg e] at no
    rw [Int32.le_iff_toInt_le, z0] at e
    have nn : ∀ y, y < 12 → 0 ≤ (vPs v y j).toInt := fun y hy => by have := no y hy; unfold agn at this; rw [if_neg (by decide)] at this; omega
    have := (sum_pos (f := fun y => (vPs v y j).toInt) 12 nn).2 ⟨x, hx, by omega⟩
    omega
theorem mv0_ps {v : q_VM} {bi si j : Nat} {p : Int32} (he : bi ≠ si) (a k : Nat) : vPs (mvM v bi si j 1 p) a k = if a = si ∧ k = j then vPs v si j + -1 else if a = bi ∧ k = j then vPs v bi j + 1 else vPs v a k := by
  have esi : vPs (gainM v bi j 1 p) si j = vPs v si j := by
    show updP (vPs v) bi j (vPs v bi j + 1) si j = _; unfold updP; rw [if_neg (fun z => he z.1.symm)]
  unfold mvM; rw [if_neg he]
  show updP (vPs (gainM v bi j 1 p)) si j (vPs (gainM v bi j 1 p) si j + -1) a k = _
  rw [esi]; rfl
theorem mv0_IM {v : q_VM} {B : Int} {bi si j : Nat} {p : Int32} (h : IMb v B) (hB : B ≤ 1000000000) (hb : bi < vN v) (hs : si < vN v) (hj : j < 6) (nb : (vPs v bi j).toInt < 0) (ps : 0 < (vPs v si j).toInt) : IMb (mvM v bi si j 1 p) B ∧ moreX v bi j 1 ≤ 0 ∧ (vPs (mvM v bi si j 1 p) bi j).toInt = (vPs v bi j).toInt + 1 ∧ (vPs (mvM v bi si j 1 p) si j).toInt = (vPs v si j).toInt - 1 ∧ (∀ a k, k ≠ j → vPs (mvM v bi si j 1 p) a k = vPs v a k) ∧ vPd (mvM v bi si j 1 p) = vPd v ∧ vCl (mvM v bi si j 1 p) = vCl v ∧ vFa (mvM v bi si j 1 p) = vFa v := by
  have he : bi ≠ si := by intro e; subst e; omega
  have z0 : (0 : Int32).toInt = 0 := rfl
  have z1 : (1 : Int32).toInt = 1 := rfl
  have nz1 : (-1 : Int32).toInt = -1 := by decide
  obtain ⟨⟨k1, k2, k3, k4, k5⟩, _⟩ := mv_IM (p := p) (l := 1) h hB hb hs hj ⟨by rw [z1]; omega, by rw [z1]; omega⟩
  obtain ⟨h1, h2, h3, h4, h5⟩ := h
  have b1 := h4 bi (by omega) j hj
  have s1 := h4 si (by omega) j hj
  have eb : (vPs v bi j + 1).toInt = (vPs v bi j).toInt + 1 := by rw [add_bd (by rw [z1]; omega), z1]
  have es : (vPs v si j + -1).toInt = (vPs v si j).toInt - 1 := by rw [add_bd (by rw [nz1]; omega), nz1]; omega
  refine ⟨⟨k1, k2, k3, fun i hi k hk => ?_, k5⟩, ?_, ?_, ?_, ?_, ?_, ?_, ?_⟩
  · have hik := h4 i hi k hk
    have e := mv0_ps (v := v) (p := p) (j := j) he i k
    clear k1 k2 k3 k4 k5 h1 h2 h3 h4 h5 hb hs nz1 z1 z0 hB hi hk hj
    by_cases e1 : i = si ∧ k = j
    · rw [if_pos e1] at e; rw [e, es]; omega
    · rw [if_neg e1] at e
      by_cases e2 : i = bi ∧ k = j
      · rw [if_pos e2] at e; rw [e, eb]; omega
      · rw [if_neg e2] at e; rw [e]; omega
  · unfold moreX
    rw [if_pos (by rw [Int32.lt_iff_toInt_lt, z0]; exact nb), Int32.le_iff_toInt_le, Int32.add_comm, eb, z0]; omega
  · have e1 : ¬ (bi = si ∧ j = j) := fun z => he z.1
    have e2 : bi = bi ∧ j = j := ⟨rfl, rfl⟩
    have := mv0_ps (v := v) (p := p) (j := j) he bi j
    rw [if_neg e1, if_pos e2] at this
    rw [this, eb]
  · have e2 : si = si ∧ j = j := ⟨rfl, rfl⟩
    have := mv0_ps (v := v) (p := p) (j := j) he si j
    rw [if_pos e2] at this
    rw [this, es]
  · intro a k hk; rw [mv0_ps he, if_neg (fun z => hk z.2), if_neg (fun z => hk z.2)]
  · unfold mvM; rw [if_neg he]; rfl
  · unfold mvM; rw [if_neg he]; rfl
  · unfold mvM; rw [if_neg he]; rfl

theorem mv0_IL {v : q_VM} {g : VL} {bi si j n nt c : Nat} {l : Int32} (h : q_IL g n nt c) (hj : j < 6) (hl : 0 ≤ l.toInt) (hm : moreX v bi j l ≤ 0) : q_IL (mvG v g.1 bi si j l, g.2) n nt c := by
  intro k hk
  obtain ⟨h1, h2, h3⟩ := h k hk
  show (mvG v g.1 bi si j l k).length ≤ nt + c ∧ (∀ q, q ∈ mvG v g.1 bi si j l k → _) ∧ _
  unfold mvG
  by_cases he : bi = si
  · rw [if_pos he]; exact ⟨by omega, h2, h3⟩
  rw [if_neg he]
  unfold q_upd
  by_cases e : k = j
  · subst e
    rw [if_pos rfl]
    have tl := tk_len (q_i3 si) (g.1 k) l
    have tm := tk_mem (s := q_i3 si) (n := n) (g.1 k) l hl h2
    unfold mvL
    rw [if_pos hm, List.append_nil]; exact ⟨by omega, tm, h3⟩
  · rw [if_neg e]; exact ⟨by omega, h2, h3⟩
def stands (v : q_VM) (x j : Nat) (lg : Int32) (k : Nat) : Prop := if lg = 0 then (vPs v x j).toInt = - (k : Int) else (vPs v x j).toInt = (k : Int)
def nxS (s : q_St) (j : Nat) (lg : Int32) (a : Nat) : Nat := nxo (sM s) j lg (vN (sM s)) (vN (sM s)) a
def cloS (s : q_St) (x j : Nat) (lg p : Int32) (a : Nat) : q_St := q_mvS s (byr lg x (nxS s j lg a)) (slr lg x (nxS s j lg a)) j 1 p
theorem clo_succ (x j : Nat) (lg p : Int32) (k a : Nat) (s : q_St) : clo x j lg p (k + 1) a s = clo x j lg p k (nxS s j lg a) (cloS s x j lg p a) := rfl
theorem clo_step {s : q_St} {B : Int} {c nt x j a k : Nat} {lg p : Int32} (hI : IMb (sM s) B) (hL : q_IL (sG s) (vN (sM s)) nt c) (hB : B ≤ 1000000000) (hx : x < vN (sM s)) (hj : j < 6) (ha : a < vN (sM s)) (hlg : lg = 0 ∨ lg = 1) (hp : stands (sM s) x j lg (k + 1)) :
    fd (sM s) j lg (vN (sM s)) (vN (sM s)) a ∧ nxS s j lg a < vN (sM s) ∧ byr lg x (nxS s j lg a) < vN (sM s) ∧ slr lg x (nxS s j lg a) < vN (sM s) ∧ moreX (sM s) (byr lg x (nxS s j lg a)) j 1 ≤ 0 ∧
    IMb (sM (cloS s x j lg p a)) B ∧ q_IL (sG (cloS s x j lg p a)) (vN (sM s)) nt c ∧ vN (sM (cloS s x j lg p a)) = vN (sM s) ∧ stands (sM (cloS s x j lg p a)) x j lg k ∧ (∀ y i, i ≠ j → vPs (sM (cloS s x j lg p a)) y i = vPs (sM s) y i) ∧ vPd (sM (cloS s x j lg p a)) = vPd (sM s) ∧ vCl (sM (cloS s x j lg p a)) = vCl (sM s) ∧ vFa (sM (cloS s x j lg p a)) = vFa (sM s) := by
  have z0 : (0 : Int32).toInt = 0 := rfl
  have h12 := hI.1
  have elg : q_lgX (vPs (sM s) x j) = lg := by
    unfold q_lgX stands at *
    rcases hlg with rfl | rfl
    · rw [if_pos rfl] at hp; rw [if_pos (by rw [Int32.le_iff_toInt_le, z0]; omega)]
    · rw [if_neg (by decide)] at hp; rw [if_neg (by rw [Int32.le_iff_toInt_le, z0]; omega)]
  have hw : (vPs (sM s) x j).toInt ≠ 0 := by unfold stands at hp; split at hp <;> omega
  obtain ⟨y, hy, hag⟩ := opp_ex hI (by omega) hj hw
  rw [elg] at hag
  have hfd := fd_ex ha hy hag
  obtain ⟨n1, n2⟩ := nxo_agn _ _ ha hfd
  have en : nxo (sM s) j lg (vN (sM s)) (vN (sM s)) a = nxS s j lg a := rfl
  rw [en] at n1 n2
  have fin : ∀ bi si, bi < vN (sM s) → si < vN (sM s) → (vPs (sM s) bi j).toInt < 0 → 0 < (vPs (sM s) si j).toInt → (x = bi ∧ lg = 0 ∨ x = si ∧ lg = 1) → q_mvS s bi si j 1 p = cloS s x j lg p a →
    moreX (sM s) bi j 1 ≤ 0 ∧ IMb (sM (cloS s x j lg p a)) B ∧ q_IL (sG (cloS s x j lg p a)) (vN (sM s)) nt c ∧ vN (sM (cloS s x j lg p a)) = vN (sM s) ∧ stands (sM (cloS s x j lg p a)) x j lg k ∧ (∀ y i, i ≠ j → vPs (sM (cloS s x j lg p a)) y i = vPs (sM s) y i) ∧ vPd (sM (cloS s x j lg p a)) = vPd (sM s) ∧ vCl (sM (cloS s x j lg p a)) = vCl (sM s) ∧ vFa (sM (cloS s x j lg p a)) = vFa (sM s) := by
    intro bi si hb hs nb ps hxx e
    rw [← e]
    obtain ⟨q1, q2, q3, q_q4, q5, q6, q7, q8⟩ := mv0_IM (p := p) hI hB hb hs hj nb ps
    obtain ⟨_, vn⟩ := mv_IM (p := p) (l := 1) hI hB hb hs hj ⟨by decide, by decide⟩
    refine ⟨q2, q1, mv0_IL hL hj (by decide) q2, vn, ?_, q5, q6, q7, q8⟩
    unfold stands at hp ⊢
    rcases hxx with ⟨rfl, rfl⟩ | ⟨rfl, rfl⟩
    · rw [if_pos rfl] at hp ⊢
      show (vPs (mvM (sM s) x si j 1 p) x j).toInt = _
      rw [q3]; omega
    · rw [if_neg (by decide)] at hp ⊢
      show (vPs (mvM (sM s) bi x j 1 p) x j).toInt = _
      rw [q_q4]; omega
  unfold agn at n1
  unfold stands at hp
  rcases hlg with rfl | rfl
  · rw [if_pos rfl] at n1 hp
    have eb : byr 0 x (nxS s j 0 a) = x := if_pos rfl
    have es : slr 0 x (nxS s j 0 a) = nxS s j 0 a := if_pos rfl
    have := fin x (nxS s j 0 a) hx n2 (by omega) n1 (Or.inl ⟨rfl, rfl⟩) (by unfold cloS; rw [eb, es])
    rw [eb, es]
    exact ⟨hfd, n2, hx, n2, this⟩
  · rw [if_neg (by decide)] at n1 hp
    have eb : byr 1 x (nxS s j 1 a) = nxS s j 1 a := if_neg (by decide)
    have es : slr 1 x (nxS s j 1 a) = x := if_neg (by decide)
    have := fin (nxS s j 1 a) x n2 hx n1 (by omega) (Or.inr ⟨rfl, rfl⟩) (by unfold cloS; rw [eb, es])
    rw [eb, es]
    exact ⟨hfd, n2, n2, hx, this⟩
theorem inc1_i3 {n a : Nat} : (if q_i3 n ≤ q_i3 a + 1 then (0 : Int32) else q_i3 a + 1) = (if q_i3 n ≤ q_i3 (a + 1) then q_i3 0 else q_i3 (a + 1)) := by rw [i3_1]; rfl
theorem c_nextL0 {μ : Mem} {b j : Nat} {v : q_VM} {lg x1 : Int32} (hK : K0 μ b) (hW : WF μ) (hM : q_CM μ b v) (hn : vN v ≤ 12) (hj : j < 6) (hlg : lg = 0 ∨ lg = 1) : ∀ (d a k f : Nat), k + d = vN v → a < vN v → fd v j lg (vN v) d a → d < f →
    F_X11_nextOpposite_L15 f b x1 (q_i3 j) lg (q_i3 (vN v)) (q_i3 a) (q_i3 k) μ = some (q_i3 (nxo v j lg (vN v) d a), μ) := by
  intro d
  induction d with
  | zero => intro a k f _ _ h; exact absurd h id
  | succ d ih =>
    intro a k f hk ha h hf
    obtain ⟨f, rfl⟩ : ∃ g, f = g + 1 := ⟨f - 1, by omega⟩
    apply eq_wp
    have l33 := hK.k 33 14 (by decide)
    have hy := inc1_lt ha
    obtain ⟨⟨m1, m2, m3, m4⟩, q1, q2, q3, q_q4, q5⟩ := hM.2 (inc1 (vN v) a) hy
    have z0 : (0 : Int32).toInt = 0 := rfl
    have L39 : q_wp (F_X11_nextOpposite_L39 (F_X11_nextOpposite_L15 f) b x1 (q_i3 j) lg (q_i3 (vN v)) (q_i3 k) (q_i3 (inc1 (vN v) a))) μ (fun r μ' => r = q_i3 (nxo v j lg (vN v) (d + 1) a) ∧ μ' = μ) := by
      unfold F_X11_nextOpposite_L39 F_X11_nextOpposite_L80
      rw [wp_bn, xgP11_3 hK, wp_bn, xpL_33 hK, wp_bn, wp_eq (ls_get hW l33 (by rw [hM.1]; exact hy)), wp_bn, wp_cst]
      refine ⟨m1, ?_⟩
      rw [wp_bn, wp_gP, show mP μ (64 * 1 + 0) ((q_lst μ (b + 33)).getD (inc1 (vN v) a) 0) = some (mr μ b (inc1 (vN v) a) + 1) from m2]
      refine ⟨m1, ?_⟩
      rw [wp_bn, wp_lI, m4, inA_i3 (by omega), i3_toNat (by omega), q5 j hj]
      refine ⟨m3, hj, ?_⟩
      have stay : agn v j lg (inc1 (vN v) a) → q_wp (rt (q_i3 (inc1 (vN v) a))) μ (fun r μ' => r = q_i3 (nxo v j lg (vN v) (d + 1) a) ∧ μ' = μ) := by
        intro e; rw [wp_rt]
        refine ⟨?_, rfl⟩
        show _ = q_i3 (if agn v j lg (inc1 (vN v) a) then inc1 (vN v) a else nxo v j lg (vN v) d (inc1 (vN v) a))
        rw [if_pos e]
      have go : ¬ agn v j lg (inc1 (vN v) a) → q_wp (F_X11_nextOpposite_L15 f b x1 (q_i3 j) lg (q_i3 (vN v)) (q_i3 (inc1 (vN v) a)) (q_i3 k + 1)) μ (fun r μ' => r = q_i3 (nxo v j lg (vN v) (d + 1) a) ∧ μ' = μ) := by
        intro e
        rw [i3_1, wp_eq (ih (inc1 (vN v) a) (k + 1) f (by omega) hy (h.resolve_left e) (by omega))]
        refine ⟨?_, rfl⟩
        show _ = q_i3 (if agn v j lg (inc1 (vN v) a) then inc1 (vN v) a else nxo v j lg (vN v) d (inc1 (vN v) a))
        rw [if_neg e]
      rw [wp_ite]
      rcases hlg with rfl | rfl
      · rw [if_pos rfl, wp_ite]
        by_cases e : vPs v (inc1 (vN v) a) j ≤ 0
        · rw [if_pos e]; refine go ?_; unfold agn; rw [if_pos rfl]; rw [Int32.le_iff_toInt_le, z0] at e; omega
        · rw [if_neg e]; refine stay ?_; unfold agn; rw [if_pos rfl]; rw [Int32.le_iff_toInt_le, z0] at e; omega
      · rw [if_neg (by decide), wp_ite]
        by_cases e : 0 ≤ vPs v (inc1 (vN v) a) j
        · rw [if_pos e]; refine go ?_; unfold agn; rw [if_neg (by decide)]; rw [Int32.le_iff_toInt_le, z0] at e; omega
        · rw [if_neg e]; refine stay ?_; unfold agn; rw [if_neg (by decide)]; rw [Int32.le_iff_toInt_le, z0] at e; omega
    unfold F_X11_nextOpposite_L15
    rw [wp_ite, if_neg (fun z => by have := (i3_le (by omega) (by omega)).mp z; omega), wp_ite]
    by_cases e : vN v ≤ a + 1
    · rw [i3_1, if_pos ((i3_le (by omega) (by omega)).mpr e)]
      have : inc1 (vN v) a = 0 := if_pos e
      rw [this] at L39; exact L39
    · rw [i3_1, if_neg (fun z => e ((i3_le (by omega) (by omega)).mp z))]
      have : inc1 (vN v) a = a + 1 := if_neg e
      rw [this] at L39; exact L39
theorem c_nextOpp {μ : Mem} {b j a : Nat} {v : q_VM} {lg : Int32} (hK : K0 μ b) (hW : WF μ) (hM : q_CM μ b v) (hn : vN v ≤ 12) (hj : j < 6) (hlg : lg = 0 ∨ lg = 1) (ha : a < vN v) (h : fd v j lg (vN v) (vN v) a) : F_X11_nextOpposite b (q_i3 a) (q_i3 j) lg μ = some (q_i3 (nxo v j lg (vN v) (vN v) a), μ) := by
  apply eq_wp
  unfold F_X11_nextOpposite
  rw [wp_bn, xgP11_3 hK, wp_bn, xpL_33 hK, wp_bn, wp_eq (ls_size hW (hK.k 33 14 (by decide))), hM.1]
  exact (wp_eq (c_nextL0 hK hW hM hn hj hlg (vN v) a 0 FU (by omega) ha h (by show _ < 100000; omega))).mpr ⟨rfl, rfl⟩

def LGS : List Nat := [12, 16, 20, 24, 28, 32]
def q_CLS : List Nat := [579, 832, 833, 834, 2372, 2104, 65]
theorem LGS_sub {j : Nat} (hj : j < 6) : subL [12 + 4 * j] LGS = true := by
  have : ∀ i : Fin 6, subL [12 + 4 * i.1] LGS = true := by decide
  exact this ⟨j, hj⟩
theorem clo_ok {B : Int} {c nt x j : Nat} {lg p : Int32} (hB : B ≤ 1000000000) (hj : j < 6) (hlg : lg = 0 ∨ lg = 1) : ∀ (k : Nat) (s : q_St) (a : Nat), IMb (sM s) B → q_IL (sG s) (vN (sM s)) nt c → x < vN (sM s) → a < vN (sM s) → stands (sM s) x j lg k →
    IMb (sM (clo x j lg p k a s)) B ∧ q_IL (sG (clo x j lg p k a s)) (vN (sM s)) nt c ∧ vN (sM (clo x j lg p k a s)) = vN (sM s) ∧ stands (sM (clo x j lg p k a s)) x j lg 0 ∧ (∀ y i, i ≠ j → vPs (sM (clo x j lg p k a s)) y i = vPs (sM s) y i) ∧ vPd (sM (clo x j lg p k a s)) = vPd (sM s) ∧ vCl (sM (clo x j lg p k a s)) = vCl (sM s) ∧ vFa (sM (clo x j lg p k a s)) = vFa (sM s) ∧ (clo x j lg p k a s).2.2 = s.2.2 := by
  intro k
  induction k with
  | zero => intro s a hI hL hx ha hp; exact ⟨hI, hL, rfl, hp, fun _ _ _ => rfl, rfl, rfl, rfl, rfl⟩
  | succ k ih =>
    intro s a hI hL hx ha hp
    obtain ⟨_, n2, _, _, _, q1, q2, q3, q_q4, q5, q6, q7, q8⟩ := clo_step (p := p) hI hL hB hx hj ha hlg hp
    rw [clo_succ]
    obtain ⟨r1, r2, r3, r4, r5, r6, r7, r8, r9⟩ := ih (cloS s x j lg p a) (nxS s j lg a) q1 (by rw [q3]; exact q2) (by rw [q3]; exact hx) (by rw [q3]; exact n2) q_q4
    refine ⟨r1, by rw [← q3]; exact r2, by rw [r3, q3], r4, fun y i hi => by rw [r5 y i hi, q5 y i hi], by rw [r6, q6], by rw [r7, q7], by rw [r8, q8], by rw [r9]; rfl⟩
theorem IMb.bd {v : q_VM} {B : Int} (h : IMb v B) (hB : B ≤ 1000000000) : ∀ i, i < 12 → ∀ k, k < 6 → -2000000000 ≤ (vPs v i k).toInt ∧ (vPs v i k).toInt ≤ 2000000000 := fun i hi k hk => by have := h.2.2.2.1 i hi k hk; omega
theorem c_cloL {b x j c nt : Nat} {B : Int} {lg p : Int32} {x2 : Option Nat} {k18 : Nat → Int32 → Option Nat → Int32 → M Unit} {Q : Unit → Mem → Prop} (hB : B ≤ 1000000000) (hc : nt + c ≤ 2000) (hj : j < 6) (hlg : lg = 0 ∨ lg = 1) : ∀ (k : Nat) (s : q_St) (μ : Mem) (a m f : Nat), K0 μ b → WF μ → q_CM μ b (sM s) → q_CL μ b (sG s) → q_CO μ b (sO s) → IMb (sM s) B → q_IL (sG s) (vN (sM s)) nt c → x < vN (sM s) → a < vN (sM s) → stands (sM s) x j lg k → m + k < 2000000000 → k < f →
    (∀ ν, q_CM ν b (sM (clo x j lg p k a s)) → q_CL ν b (sG (clo x j lg p k a s)) → q_CO ν b (sO s) → Cs q_CLS LGS 0 0 b μ ν → q_wp (k18 b (q_i3 x) x2 (q_i3 j + 1)) ν Q) →
    q_wp (F_X11_closeOut_L64 k18 f b (q_i3 x) x2 (q_i3 j) lg (q_i3 (m + k)) p (q_i3 a) (q_i3 m)) μ Q := by
  intro k
  induction k with
  | zero =>
    intro s μ a m f hK hW hM hL hO hI hIL hx ha hp hm hf hQ
    obtain ⟨f, rfl⟩ : ∃ g, f = g + 1 := ⟨f - 1, by omega⟩
    unfold F_X11_closeOut_L64
    rw [wp_ite, if_pos ((i3_le (by omega) (by omega)).mpr (by omega))]
    exact hQ μ hM hL hO ((Cs.rf hW).wk rfl rfl (by omega) (by omega))
  | succ k ih =>
    intro s μ a m f hK hW hM hL hO hI hIL hx ha hp hm hf hQ
    obtain ⟨f, rfl⟩ : ∃ g, f = g + 1 := ⟨f - 1, by omega⟩
    obtain ⟨hfd, n2, b1, s1, mx, q1, q2, q3, q_q4, q5, q6, q7, q8⟩ := clo_step (p := p) hI hIL hB hx hj ha hlg hp
    have h12 := hI.1
    have lj := (hIL j hj).1
    have core : q_wp (bn (pRc 11 (some b)) fun b11 => bn (F_X11_exchange b11 (q_i3 (byr lg x (nxS s j lg a))) (q_i3 (slr lg x (nxS s j lg a))) (q_i3 j) (1 : Int32) p) fun _ => F_X11_closeOut_L64 k18 f b (q_i3 x) x2 (q_i3 j) lg (q_i3 (m + (k + 1))) p (q_i3 (nxS s j lg a)) (q_i3 m + (1 : Int32))) μ Q := by
      rw [wp_bn, xpR11 hK, wp_bn]
      refine q_wp_mono (c_exch0 (p := p) (lots := 1) hK hW hM hL hO h12 b1 s1 hj ⟨by decide, by decide⟩ (hI.bd hB) (by omega) (fun q hq => ((hIL j hj).2.1 q hq).2.1) mx) ?_
      rintro _ ν ⟨M1, L1, O1, C1⟩
      rw [i3_1, show m + (k + 1) = m + 1 + k by omega]
      refine ih (cloS s x j lg p a) ν (nxS s j lg a) (m + 1) f (C1.k0 hK rfl) C1.1 M1 L1 O1 q1 (by rw [q3]; exact q2) (by rw [q3]; exact hx) (by rw [q3]; exact n2) q_q4 (by omega) (by omega) ?_
      intro ρ M2 L2 O2 C2
      exact hQ ρ M2 L2 O2 ((C1.tr C2).wk rfl (by
        have := LGS_sub hj
        unfold subL at this ⊢
        rw [List.all_append, this]; rfl) (by omega) (by omega))
    unfold F_X11_closeOut_L64 F_X11_closeOut_L94 F_X11_closeOut_L105
    rw [wp_ite, if_neg (fun z => by have := (i3_le (by omega) (by omega)).mp z; omega), wp_bn, xpR11 hK, wp_bn, wp_eq (c_nextOpp hK hW hM h12 hj hlg ha hfd)]
    rw [show nxo (sM s) j lg (vN (sM s)) (vN (sM s)) a = nxS s j lg a from rfl]
    rcases hlg with rfl | rfl
    · rw [wp_ite, if_pos rfl, wp_ite, if_pos rfl]
      exact core
    · rw [wp_ite, if_neg (by decide), wp_ite, if_neg (by decide)]
      exact core
theorem cloM_ok {P : Nat → Int32} {B : Int} {c nt x j : Nat} {s : q_St} (hB : B ≤ 1000000000) (hj : j < 6) (hI : IMb (sM s) B) (hL : q_IL (sG s) (vN (sM s)) nt c) (hx : x < vN (sM s)) :
    IMb (sM (cloM P x j s)) B ∧ q_IL (sG (cloM P x j s)) (vN (sM s)) nt c ∧ vN (sM (cloM P x j s)) = vN (sM s) ∧ (∀ y i, i ≠ j → vPs (sM (cloM P x j s)) y i = vPs (sM s) y i) ∧ vPd (sM (cloM P x j s)) = vPd (sM s) ∧ vCl (sM (cloM P x j s)) = vCl (sM s) ∧ vFa (sM (cloM P x j s)) = vFa (sM s) ∧ (cloM P x j s).2.2 = s.2.2 := by
  have hst : stands (sM s) x j (q_lgX (vPs (sM s) x j)) (vPs (sM s) x j).toInt.natAbs ∧ (q_lgX (vPs (sM s) x j) = 0 ∨ q_lgX (vPs (sM s) x j) = 1) := by
    unfold stands q_lgX
    have z0 : (0 : Int32).toInt = 0 := rfl
    by_cases e : vPs (sM s) x j ≤ 0
    · rw [if_pos e]; rw [Int32.le_iff_toInt_le, z0] at e; exact ⟨by rw [if_pos rfl]; omega, Or.inl rfl⟩
    · rw [if_neg e]; rw [Int32.le_iff_toInt_le, z0] at e; exact ⟨by rw [if_neg (by decide)]; omega, Or.inr rfl⟩
  obtain ⟨r1, r2, r3, r4, r5, r6, r7, r8, r9⟩ := clo_ok (p := P j) hB hj hst.2 _ s x hI hL hx hx hst.1
  exact ⟨r1, r2, r3, r5, r6, r7, r8, r9⟩
theorem stands_lgX (v : q_VM) (x j : Nat) : stands v x j (q_lgX (vPs v x j)) (vPs v x j).toInt.natAbs ∧ (q_lgX (vPs v x j) = 0 ∨ q_lgX (vPs v x j) = 1) := by
  unfold stands q_lgX
  have z0 : (0 : Int32).toInt = 0 := rfl
  by_cases e : vPs v x j ≤ 0
  · rw [if_pos e]; rw [Int32.le_iff_toInt_le, z0] at e; exact ⟨by rw [if_pos rfl]; omega, Or.inl rfl⟩
  · rw [if_neg e]; rw [Int32.le_iff_toInt_le, z0] at e; exact ⟨by rw [if_neg (by decide)]; omega, Or.inr rfl⟩
theorem cloA_ok {P : Nat → Int32} {B : Int} {c nt x : Nat} {s : q_St} (hB : B ≤ 1000000000) (hI : IMb (sM s) B) (hL : q_IL (sG s) (vN (sM s)) nt c) (hx : x < vN (sM s)) : ∀ k, k ≤ 6 →
    IMb (sM (cloA P x k s)) B ∧ q_IL (sG (cloA P x k s)) (vN (sM s)) nt c ∧ vN (sM (cloA P x k s)) = vN (sM s) ∧ vPd (sM (cloA P x k s)) = vPd (sM s) ∧ vCl (sM (cloA P x k s)) = vCl (sM s) ∧ vFa (sM (cloA P x k s)) = vFa (sM s) ∧ (cloA P x k s).2.2 = s.2.2 := by
  intro k
  induction k with
  | zero => intro _; exact ⟨hI, hL, rfl, rfl, rfl, rfl, rfl⟩
  | succ k ih =>
    intro hk
    obtain ⟨r1, r2, r3, r4, r5, r6, r7⟩ := ih (by omega)
    obtain ⟨q1, q2, q3, _, q_q4, q5, q6, q7⟩ := cloM_ok (P := P) (j := k) hB (by omega) r1 (by rw [r3]; exact r2) (by rw [r3]; exact hx)
    exact ⟨q1, by rw [← r3]; exact q2, by show vN (sM (cloM P x k (cloA P x k s))) = _; rw [q3, r3], by show vPd (sM (cloM P x k (cloA P x k s))) = _; rw [q_q4, r4], by show vCl (sM (cloM P x k (cloA P x k s))) = _; rw [q5, r5], by show vFa (sM (cloM P x k (cloA P x k s))) = _; rw [q6, r6], by show (cloM P x k (cloA P x k s)).2.2 = _; rw [q7, r7]⟩
theorem absI_nat {x : Int32} (h : -2000000000 ≤ x.toInt) : absI x = q_i3 x.toInt.natAbs := by
  apply Int32.toInt_inj.mp
  have hl := x.toInt_lt
  rw [i3_toInt (by omega)]
  have z0 : (0 : Int32).toInt = 0 := rfl
  unfold absI
  by_cases e : 0 ≤ x
  · rw [if_pos e]; rw [Int32.le_iff_toInt_le, z0] at e; omega
  · rw [if_neg e]; rw [Int32.le_iff_toInt_le, z0] at e
    rw [Int32.toInt_sub, z0, Int.bmod_eq_of_le (by omega) (by omega)]; omega
theorem CDx.fr {S : List Nat} {μ ν : Mem} {b : Nat} {v : VD} (h : CDx μ b v) (f : q_Fr S μ ν) (hl : q_lst ν (b + 37) = q_lst μ (b + 37)) (hS : disj [0, 1, 2, 714, 512, 513, 514, 2086, 2088, 2097] S = true) : CDx ν b v := by
  obtain ⟨h2, h3, h4⟩ := h
  have el : ∀ i, dy ν b i = dy μ b i := fun i => by unfold dy; rw [hl]
  refine ⟨by rw [f.i 714 (disj_nc hS (by decide))]; exact h2, by rw [hl]; exact h3, fun d hd => ?_⟩
  obtain ⟨⟨d1, d2, d3, d4, d5, d6, d7, d8, d9, d10⟩, g1, g2⟩ := h4 d hd
  rw [el, f.alg 97 (disj_nc hS (by decide)), f.ai 88 (disj_nc hS (by decide)), f.ap 86 (disj_nc hS (by decide))]
  refine ⟨⟨f.k d1 (by omega), by rw [f.p 0 (disj_nc hS (by decide))]; exact d2, by rw [f.p 1 (disj_nc hS (by decide))]; exact d3, by rw [f.p 2 (disj_nc hS (by decide))]; exact d4, f.k d5 (by omega), f.k d6 (by omega), f.k d7 (by omega), f.n (by omega) d8, f.n (by omega) d9, f.n (by omega) d10⟩, fun j hj => ?_, g2⟩
  exact Ch.fr (fun a ha => f.k rfl ha) (fun a _ => ⟨by rw [f.i 512 (disj_nc hS (by decide))], by rw [f.i 513 (disj_nc hS (by decide))], by rw [f.p 514 (disj_nc hS (by decide))]⟩) _ _ (g1 j hj)
theorem Cs.tr' {S L : List Nat} {b : Nat} {μ ν ρ : Mem} (h : Cs S L 0 0 b μ ν) (g : Cs S L 0 0 b ν ρ) : Cs S L 0 0 b μ ρ := by
  obtain ⟨h1, h2, h3, h4, h5⟩ := h
  obtain ⟨g1, g2, g3, g4, g5⟩ := g
  refine ⟨g1, ?_, fun o ho hn => by rw [g3 o ho hn, h3 o ho hn], by omega, by omega⟩
  have := h2.tr g2
  exact ⟨fun f hf => this.1 f (by rw [List.mem_append, not_or]; exact ⟨hf, hf⟩), fun k hk => this.2.1 k (by rw [List.mem_append, not_or]; exact ⟨hk, hk⟩), this.2.2⟩
def setFa (v : q_VM) (i : Nat) (x : Int32) : q_VM := (vN v, vPd v, vCl v, q_upd (vFa v) i x, vPs v, vCs v)
def setCl (v : q_VM) (i : Nat) (x : Int32) : q_VM := (vN v, vPd v, q_upd (vCl v) i x, vFa v, vPs v, vCs v)
theorem c_months {b x c nt : Nat} {vd : VD} {B : Int} {s : q_St} {μ : Mem} (hB : B ≤ 90000) (hc : nt + c ≤ 2000) (hK : K0 μ b) (hW : WF μ) (hM : q_CM μ b (sM s)) (hL : q_CL μ b (sG s)) (hO : q_CO μ b (sO s)) (hD : CDx μ b vd) (hI : IMb (sM s) B) (hIL : q_IL (sG s) (vN (sM s)) nt c) (hx : x < vN (sM s)) :
    q_wp (F_X11_closeOut_L18 FU b (q_i3 x) (some (mr μ b x)) 0) μ (fun _ ν => q_CM ν b (sM (cloA (lpv vd) x 6 s)) ∧ q_CL ν b (sG (cloA (lpv vd) x 6 s)) ∧ q_CO ν b (sO s) ∧ Cs q_CLS LGS 0 0 b μ ν) := by
  have h12 := hI.1
  refine wp_loop (σ := Unit) (fun f k _ => F_X11_closeOut_L18 f b (q_i3 x) (some (mr μ b x)) (q_i3 k)) 6 (fun k _ ν => q_CM ν b (sM (cloA (lpv vd) x k s)) ∧ q_CL ν b (sG (cloA (lpv vd) x k s)) ∧ q_CO ν b (sO s) ∧ Cs q_CLS LGS 0 0 b μ ν) _ ?_ ?_ FU 0 () μ (by omega) (by show 6 - 0 < 100000; omega) ⟨hM, hL, hO, (Cs.rf hW).wk rfl rfl (by omega) (by omega)⟩
  · rintro f _ ν h
    unfold F_X11_closeOut_L18
    rw [wp_ite, if_pos (by decide), wp_rt]
    exact h
  · rintro f k _ ν hk ⟨M1, L1, O1, C1⟩ ih
    show q_wp (F_X11_closeOut_L18 (f + 1) b (q_i3 x) (some (mr μ b x)) (q_i3 k)) ν _
    have K1 := C1.k0 hK rfl
    have W1 := C1.1
    have D1 : CDx ν b vd := hD.fr C1.2.1 (C1.2.2.1 37 (by decide) (by decide)) rfl
    have em : mr μ b x = mr ν b x := by unfold mr; rw [C1.2.2.1 33 (by decide) (by decide)]
    obtain ⟨r1, r2, r3, r4, r5, r6, r7⟩ := cloA_ok (P := lpv vd) (x := x) (by omega) hI hIL hx k (by omega)
    obtain ⟨⟨m1, m2, m3, m4⟩, p1, p2, p3, p4, p5⟩ := M1.2 x (by rw [r3]; exact hx)
    obtain ⟨st, hlg⟩ := stands_lgX (sM (cloA (lpv vd) x k s)) x k
    have bd := r1.2.2.2.1 x (by omega) k hk
    have hO1 : q_CO ν b (sO (cloA (lpv vd) x k s)) := by
      have : sO (cloA (lpv vd) x k s) = sO s := by unfold sO; rw [r7]
      rw [this]; exact O1
    unfold F_X11_closeOut_L18 F_X11_closeOut_L38
    rw [wp_ite, if_neg (fun z => by have := (i3_le (a := 6) (by omega) (by omega)).mp z; omega), em, wp_bn, wp_gP, show mP ν (64 * 1 + 0) (mr ν b x) = some (mr ν b x + 1) from m2]
    refine ⟨m1, ?_⟩
    rw [wp_bn, wp_lI, m4, inA_i3 (by omega), i3_toNat (by omega), p5 k hk]
    refine ⟨m3, hk, ?_⟩
    obtain ⟨w, ew⟩ : ∃ w, w = vPs (sM (cloA (lpv vd) x k s)) x k := ⟨_, rfl⟩
    have core : ∀ lg, lg = q_lgX w → q_wp (bn (gP 1 0 (some (mr ν b x))) fun v5 => bn (lI 104 v5 (q_i3 k)) fun v6 => bn (pRc 11 (some b)) fun b7 => bn (F_X11_latestPrice b7 (q_i3 k)) fun v8 => F_X11_closeOut_L64 (F_X11_closeOut_L18 f) FU b (q_i3 x) (some (mr ν b x)) (q_i3 k) lg (if 0 ≤ v6 then v6 else 0 - v6) v8 (q_i3 x) (0 : Int32)) ν (fun _ ν => q_CM ν b (sM (cloA (lpv vd) x 6 s)) ∧ q_CL ν b (sG (cloA (lpv vd) x 6 s)) ∧ q_CO ν b (sO s) ∧ Cs q_CLS LGS 0 0 b μ ν) := by
      intro lg elg
      rw [wp_bn, wp_gP, show mP ν (64 * 1 + 0) (mr ν b x) = some (mr ν b x + 1) from m2]
      refine ⟨m1, ?_⟩
      rw [wp_bn, wp_lI, m4, inA_i3 (by omega), i3_toNat (by omega), p5 k hk]
      refine ⟨m3, hk, ?_⟩
      rw [wp_bn, xpR11 K1, wp_bn, wp_eq (c_lp K1 W1 D1 hk)]
      have ea := absI_nat (x := vPs (sM (cloA (lpv vd) x k s)) x k) (by omega)
      unfold absI at ea
      rw [ea]
      have e0 : (vPs (sM (cloA (lpv vd) x k s)) x k).toInt.natAbs = 0 + (vPs (sM (cloA (lpv vd) x k s)) x k).toInt.natAbs := by omega
      rw [e0]
      refine c_cloL (B := B) (nt := nt) (c := c) (by omega) hc hk (by rw [elg, ew]; exact hlg) _ (cloA (lpv vd) x k s) ν x 0 FU K1 W1 M1 L1 hO1 r1 (by rw [r3]; exact r2) (by rw [r3]; exact hx) (by rw [r3]; exact hx) (by rw [elg, ew]; exact st) (by omega) (by show _ < 100000; omega) ?_
      intro ρ M2 L2 O2 C2
      rw [i3_1, ← em]
      refine ih () ρ ⟨?_, ?_, ?_, C1.tr' C2⟩
      · rw [elg, ew] at M2; exact M2
      · rw [elg, ew] at L2; exact L2
      · have : sO (cloA (lpv vd) x k s) = sO s := by unfold sO; rw [r7]
        rw [← this]; exact O2
    rw [wp_ite, ← ew]
    by_cases e : w ≤ 0
    · rw [if_pos e]; exact core 0 (by unfold q_lgX; rw [if_pos e])
    · rw [if_neg e]; exact core 1 (by unfold q_lgX; rw [if_neg e])

def NCS : List Nat := [579, 832, 833, 834, 2372, 2104, 65, 67, 68, 2136, 451, 2144]
abbrev lowW (v : q_VM) (ru : List q_Ru) (T : Int32) (P : Nat → Int32) (x : Nat) (name : Int32) : Prop := (q_worth v x P).toInt < (q_need v ru T P x name).toInt
def nmS (ru : List q_Ru) (T : Int32) (P : Nat → Int32) (x : Nat) (s : q_St) : Int32 × q_St :=
  if vFa (sM s) x = 0 then
    (if vCl (sM s) x = 0 then (0, wM s (setCl (sM s) x (if lowW (sM s) ru T P x 2 then 1 else 0)))
     else if lowW (sM s) ru T P x 1 then (1, cloA P x 6 (wM s (setFa (setCl (sM s) x 0) x 1))) else (0, wM s (setCl (sM s) x 0)))
  else (0, s)
def nmL (ru : List q_Ru) (T : Int32) (P : Nat → Int32) : Nat → q_St → Int32 × q_St
  | 0, s => (0, s)
  | k + 1, s => ((nmL ru T P k s).1 + (nmS ru T P k (nmL ru T P k s).2).1, (nmS ru T P k (nmL ru T P k s).2).2)
theorem IMb.cl {v : q_VM} {B : Int} {x : Nat} {y : Int32} (h : IMb v B) (hx : x < vN v) (hy : y = 0 ∨ y = 1) : IMb (setCl v x y) B := by
  obtain ⟨h1, h2, h3, h4, h5⟩ := h
  refine ⟨h1, fun i hi h12 => ?_, fun i hi => ?_, h4, h5⟩
  · obtain ⟨a1, a2, a3⟩ := h2 i hi h12
    refine ⟨a1, ?_, a3⟩
    have hi : vN v ≤ i := hi
    show q_upd (vCl v) x y i = 0
    unfold q_upd; rw [if_neg (by omega)]; exact a2
  · obtain ⟨a1, a2⟩ := h3 i hi
    refine ⟨?_, a2⟩
    show q_upd (vCl v) x y i = 0 ∨ q_upd (vCl v) x y i = 1
    unfold q_upd; split
    · exact hy
    · exact a1
theorem IMb.fa {v : q_VM} {B : Int} {x : Nat} {y : Int32} (h : IMb v B) (hx : x < vN v) (hy : y = 0 ∨ y = 1) : IMb (setFa v x y) B := by
  obtain ⟨h1, h2, h3, h4, h5⟩ := h
  refine ⟨h1, fun i hi h12 => ?_, fun i hi => ?_, h4, h5⟩
  · obtain ⟨a1, a2, a3, a4⟩ := h2 i hi h12
    refine ⟨a1, a2, ?_, a4⟩
    have hi : vN v ≤ i := hi
    show q_upd (vFa v) x y i = 0
    unfold q_upd; rw [if_neg (by omega)]; exact a3
  · obtain ⟨a1, a2⟩ := h3 i hi
    refine ⟨a1, ?_⟩
    show q_upd (vFa v) x y i = 0 ∨ q_upd (vFa v) x y i = 1
    unfold q_upd; split
    · exact hy
    · exact a2
theorem nmS_ok {ru : List q_Ru} {T : Int32} {P : Nat → Int32} {B : Int} {c nt x : Nat} {s : q_St} (hB : B ≤ 1000000000) (hI : IMb (sM s) B) (hL : q_IL (sG s) (vN (sM s)) nt c) (hx : x < vN (sM s)) :
    IMb (sM (nmS ru T P x s).2) B ∧ q_IL (sG (nmS ru T P x s).2) (vN (sM s)) nt c ∧ vN (sM (nmS ru T P x s).2) = vN (sM s) ∧ (nmS ru T P x s).2.2.2 = s.2.2 := by
  unfold nmS
  by_cases h1 : vFa (sM s) x = 0
  · rw [if_pos h1]
    by_cases h2 : vCl (sM s) x = 0
    · rw [if_pos h2]
      exact ⟨hI.cl hx (by split; exact Or.inr rfl; exact Or.inl rfl), hL, rfl, rfl⟩
    · rw [if_neg h2]
      by_cases h3 : lowW (sM s) ru T P x 1
      · rw [if_pos h3]
        have := cloA_ok (P := P) (x := x) (s := wM s (setFa (setCl (sM s) x 0) x 1)) hB ((hI.cl hx (Or.inl rfl)).fa hx (Or.inr rfl)) hL hx 6 (by omega)
        obtain ⟨S, eS⟩ : ∃ S, S = cloA P x 6 (wM s (setFa (setCl (sM s) x 0) x 1)) := ⟨_, rfl⟩
        rw [← eS] at this ⊢
        exact ⟨this.1, this.2.1, this.2.2.1, this.2.2.2.2.2.2⟩
      · rw [if_neg h3]; exact ⟨hI.cl hx (Or.inl rfl), hL, rfl, rfl⟩
  · rw [if_neg h1]; exact ⟨hI, hL, rfl, rfl⟩
theorem nmL_ok {ru : List q_Ru} {T : Int32} {P : Nat → Int32} {B : Int} {c nt : Nat} {s : q_St} (hB : B ≤ 1000000000) (hI : IMb (sM s) B) (hL : q_IL (sG s) (vN (sM s)) nt c) : ∀ k, k ≤ vN (sM s) →
    IMb (sM (nmL ru T P k s).2) B ∧ q_IL (sG (nmL ru T P k s).2) (vN (sM s)) nt c ∧ vN (sM (nmL ru T P k s).2) = vN (sM s) ∧ (nmL ru T P k s).2.2.2 = s.2.2 := by
  intro k
  induction k with
  | zero => intro _; exact ⟨hI, hL, rfl, rfl⟩
  | succ k ih =>
    intro hk
    obtain ⟨r1, r2, r3, r4⟩ := ih (by omega)
    obtain ⟨q1, q2, q3, q_q4⟩ := nmS_ok (ru := ru) (T := T) (P := P) (x := k) hB r1 (by rw [r3]; exact r2) (by rw [r3]; omega)
    exact ⟨q1, by rw [← r3]; exact q2, by show vN (sM (nmS ru T P k (nmL ru T P k s).2).2) = _; rw [q3, r3], by show (nmS ru T P k (nmL ru T P k s).2).2.2.2 = _; rw [q_q4, r4]⟩
theorem q_CM.cl {μ : Mem} {b i : Nat} {v : q_VM} (hK : K0 μ b) (hW : WF μ) (h : q_CM μ b v) (hi : i < vN v) (x : Int32) : q_CM (sI μ 67 (mr μ b i) x) b (setCl v i x) := by
  have hW' := hW.sI (f := 67) (a := mr μ b i) (v := x) (by rw [(h.2 i hi).1.1]; omega) (by omega)
  have el : ∀ j, mr (sI μ 67 (mr μ b i) x) b j = mr μ b j := fun j => congrArg (fun l => l.getD j 0) (congrFun hW'.2 (b + 33))
  refine ⟨by rw [hW'.2]; exact h.1, fun j hj => ?_⟩
  have hj : j < vN v := hj
  obtain ⟨m, q1, q2, q3, q_q4, q5⟩ := h.2 j hj
  rw [el]
  refine ⟨m, q1, ?_, ?_, q_q4, q5⟩
  · show _ = q_upd (vCl v) i x j
    rw [mI_sI']; unfold q_upd
    by_cases hji : j = i
    · rw [if_pos hji, hji]; simp
    · have : mr μ b j ≠ mr μ b i := fun z => hji (hW.inj (hK.k 33 14 (by decide)) (by rw [h.1]; exact hj) (by rw [h.1]; exact hi) z)
      rw [if_neg hji, if_neg (fun z => this z.2)]; exact q2
  · rw [mI_sI']; simp; exact q3
theorem q_CM.fa {μ : Mem} {b i : Nat} {v : q_VM} (hK : K0 μ b) (hW : WF μ) (h : q_CM μ b v) (hi : i < vN v) (x : Int32) : q_CM (sI μ 68 (mr μ b i) x) b (setFa v i x) := by
  have hW' := hW.sI (f := 68) (a := mr μ b i) (v := x) (by rw [(h.2 i hi).1.1]; omega) (by omega)
  have el : ∀ j, mr (sI μ 68 (mr μ b i) x) b j = mr μ b j := fun j => congrArg (fun l => l.getD j 0) (congrFun hW'.2 (b + 33))
  refine ⟨by rw [hW'.2]; exact h.1, fun j hj => ?_⟩
  have hj : j < vN v := hj
  obtain ⟨m, q1, q2, q3, q_q4, q5⟩ := h.2 j hj
  rw [el]
  refine ⟨m, q1, ?_, ?_, q_q4, q5⟩
  · rw [mI_sI']; simp; exact q2
  · show _ = q_upd (vFa v) i x j
    rw [mI_sI']; unfold q_upd
    by_cases hji : j = i
    · rw [if_pos hji, hji]; simp
    · have : mr μ b j ≠ mr μ b i := fun z => hji (hW.inj (hK.k 33 14 (by decide)) (by rw [h.1]; exact hj) (by rw [h.1]; exact hi) z)
      rw [if_neg hji, if_neg (fun z => this z.2)]; exact q3
theorem Md.csN {S : List Nat} {μ ν : Mem} {b : Nat} (h : Md S μ ν) (hW : WF μ) (hS : S.contains 834 = false) (h1 : subL S NCS = true) : Cs NCS LGS 0 0 b μ ν := (h.cs hW hS).wk h1 rfl (by omega) (by omega)
theorem c_night1 {b x c nt : Nat} {vd : VD} {ru : List q_Ru} {T x2 : Int32} {B : Int} {s : q_St} {μ : Mem} {KA : Int32 → M Int32} {Q : Int32 → Mem → Prop} (hB : B ≤ 90000) (hc : nt + c ≤ 2000) (hK : K0 μ b) (hW : WF μ) (hM : q_CM μ b (sM s)) (hL : q_CL μ b (sG s)) (hO : q_CO μ b (sO s)) (hD : CDx μ b vd) (hU : CU μ b ru) (hT : mI μ 712 b = T) (hI : IMb (sM s) B) (hIL : q_IL (sG s) (vN (sM s)) nt c) (hx : x < vN (sM s))
    (hQ : ∀ ν, q_CM ν b (sM (nmS ru T (lpv vd) x s).2) → q_CL ν b (sG (nmS ru T (lpv vd) x s).2) → q_CO ν b (sO s) → Cs NCS LGS 0 0 b μ ν → q_wp (KA (x2 + (nmS ru T (lpv vd) x s).1)) ν Q) :
    q_wp (bn (F_X11_fallsTonight b (some (mr μ b x))) fun v28 => if v28 = 0 then KA x2 else bn (pRc 11 (some b)) fun b29 => bn (F_X11_closeOut b29 (q_i3 x)) fun _ => KA (x2 + 1)) μ Q := by
  have h12 := hI.1
  obtain ⟨⟨m1, m2, m3, m4⟩, p1, p2, p3, p4, p5⟩ := hM.2 x hx
  obtain ⟨R, eR⟩ : ∃ R, R = nmS ru T (lpv vd) x s := ⟨_, rfl⟩
  rw [← eR] at hQ
  unfold nmS at eR
  have bdx : ∀ j, j < 6 → -2000000000 ≤ (vPs (sM s) x j).toInt := fun j hj => (hI.bd (by omega) x (by omega) j hj).1
  have a0 : ∀ y : Int32, y + 0 = y := fun y => by simp
  unfold F_X11_fallsTonight
  rw [wp_bn, wp_bn, wp_gI, show mI μ (64 * 1 + 4) (mr μ b x) = vFa (sM s) x from p3]
  refine ⟨m1, ?_⟩
  rw [wp_ite]
  by_cases h1 : vFa (sM s) x = 0
  rotate_left
  · rw [if_neg h1, wp_rz, wp_ite, if_pos rfl]
    rw [if_neg h1] at eR
    refine ⟨Or.inl rfl, ?_⟩
    have := hQ μ (by rw [eR]; exact hM) (by rw [eR]; exact hL) hO ((Md.rf μ).csN hW rfl rfl)
    rw [eR, a0] at this; exact this
  rw [if_pos h1] at eR ⊢
  rw [wp_bn, xpR11 hK, wp_bn, wp_eq (c_worthOf hK hW hM hD hx), wp_bn, wp_gI, show mI μ (64 * 1 + 3) (mr μ b x) = vCl (sM s) x from p2]
  refine ⟨m1, ?_⟩
  rw [wp_ite]
  by_cases h2 : vCl (sM s) x = 0
  · rw [if_pos h2] at eR ⊢
    rw [wp_bn, xpR11 hK, wp_bn]
    refine q_wp_mono (c_needOf (c := c) hK hW hM hD hU hT hx bdx) ?_
    rintro _ ν ⟨rfl, md⟩
    have K1 := md.k0 hK
    obtain ⟨W1, l1⟩ := md.wf hW rfl
    have M1 : q_CM ν b (sM s) := hM.fr md.1 (by rw [l1]) rfl
    have em : mr μ b x = mr ν b x := by unfold mr; rw [l1]
    have k2 : mK ν (mr ν b x) = 2 := (M1.2 x hx).1.1
    have fin : ∀ y : Int32, (y = 0 ∨ y = 1) → y = (if lowW (sM s) ru T (lpv vd) x 2 then 1 else 0) → q_wp (KA x2) (sI ν (64 * 1 + 3) (mr ν b x) y) Q := by
      intro y _ ey
      have md2 : Md [67] ν (sI ν 67 (mr ν b x) y) := Md.sI (by rw [k2]; omega)
      have mm := md.tr md2
      have := hQ (sI ν 67 (mr ν b x) y) (by rw [eR, ← ey]; exact M1.cl K1 W1 hx y) (by rw [eR]; exact hL.fr mm.1 (fun i hi => by rw [(mm.wf hW rfl).2]) rfl) (hO.fr mm.1 (fun i hi s => by rw [(mm.wf hW rfl).2]) rfl) (mm.csN hW rfl rfl)
      rw [eR, a0] at this; exact this
    rw [em, wp_ite]
    by_cases h3 : lowW (sM s) ru T (lpv vd) x 2
    · rw [if_neg (by rw [lgc_ge]; omega), wp_bn, wp_wZ]
      refine ⟨k2, Or.inr rfl, ?_⟩
      rw [wp_rz, wp_ite, if_pos rfl]
      exact ⟨Or.inl rfl, fin 1 (Or.inr rfl) (by rw [if_pos h3])⟩
    · rw [if_pos (by rw [lgc_ge]; omega), wp_bn, wp_wZ]
      refine ⟨k2, Or.inl rfl, ?_⟩
      rw [wp_rz, wp_ite, if_pos rfl]
      exact ⟨Or.inl rfl, fin 0 (Or.inl rfl) (by rw [if_neg h3])⟩
  · rw [if_neg h2] at eR ⊢
    rw [wp_bn, wp_wZ]
    refine ⟨m1, Or.inl rfl, ?_⟩
    have md0 : Md [67] μ (sI μ 67 (mr μ b x) 0) := Md.sI (by rw [m1]; omega)
    obtain ⟨μ1, e1⟩ : ∃ μ1, μ1 = sI μ 67 (mr μ b x) 0 := ⟨_, rfl⟩
    have M1 : q_CM μ1 b (setCl (sM s) x 0) := by rw [e1]; exact hM.cl hK hW hx 0
    rw [← e1] at md0
    show q_wp _ (sI μ 67 (mr μ b x) 0) _
    rw [← e1]
    have K1 := md0.k0 hK
    obtain ⟨W1, l1⟩ := md0.wf hW rfl
    have D1 : CDx μ1 b vd := hD.fr md0.1 (by rw [l1]) rfl
    have U1 : CU μ1 b ru := hU.fr md0.1 (by rw [l1]) rfl
    have em1 : mr μ b x = mr μ1 b x := by unfold mr; rw [l1]
    rw [wp_bn, xpR11 K1, wp_bn, em1]
    refine q_wp_mono (c_needOf (c := c) (v := setCl (sM s) x 0) K1 W1 M1 D1 U1 (T := T) (by rw [md0.1.i 712 rfl]; exact hT) hx bdx) ?_
    rintro _ ν ⟨rfl, md⟩
    have K2 := md.k0 K1
    obtain ⟨W2, l2⟩ := md.wf W1 rfl
    have mm := md0.tr md
    have M2 : q_CM ν b (setCl (sM s) x 0) := M1.fr md.1 (by rw [l2]) rfl
    have L2 : q_CL ν b (sG s) := hL.fr mm.1 (fun i hi => by rw [(mm.wf hW rfl).2]) rfl
    have O2 : q_CO ν b (sO s) := hO.fr mm.1 (fun i hi s => by rw [(mm.wf hW rfl).2]) rfl
    have D2 : CDx ν b vd := D1.fr md.1 (by rw [l2]) rfl
    rw [show q_need (setCl (sM s) x 0) ru T (lpv vd) x 1 = q_need (sM s) ru T (lpv vd) x 1 from rfl, wp_ite]
    by_cases h3 : lowW (sM s) ru T (lpv vd) x 1
    · rw [if_pos h3] at eR
      rw [if_neg (by rw [lgc_ge]; omega), wp_rz, wp_ite, if_neg (by decide), wp_bn, xpR11 K2, wp_bn]
      refine ⟨Or.inr rfl, ?_⟩
      unfold F_X11_closeOut
      rw [wp_bn, xpR11 K2, wp_bn, wp_eq (c_memberOf K2 W2 M2 _), if_pos (show q_inR (q_i3 x) (vN (setCl (sM s) x 0)) from i3_inR (n := vN (sM s)) hx (by omega)), wp_ite, if_pos (by simp), i3_toNat (by omega), wp_bn, wp_wZ]
      have k2 := (M2.2 x hx).1.1
      refine ⟨k2, Or.inr rfl, ?_⟩
      have md3 : Md [68] ν (sI ν 68 (mr ν b x) 1) := Md.sI (by rw [k2]; omega)
      have M3 : q_CM (sI ν 68 (mr ν b x) 1) b (setFa (setCl (sM s) x 0) x 1) := M2.fa K2 W2 hx 1
      show q_wp _ (sI ν 68 (mr ν b x) 1) _
      obtain ⟨μ3, e3⟩ : ∃ μ3, μ3 = sI ν 68 (mr ν b x) 1 := ⟨_, rfl⟩
      rw [← e3] at md3 M3 ⊢
      have K3 := md3.k0 K2
      obtain ⟨W3, l3⟩ := md3.wf W2 rfl
      have em3 : mr ν b x = mr μ3 b x := by unfold mr; rw [l3]
      rw [em3]
      refine q_wp_mono (c_months (nt := nt) (c := c) (s := wM s (setFa (setCl (sM s) x 0) x 1)) hB hc K3 W3 M3 (L2.fr md3.1 (fun i hi => by rw [l3]) rfl) (O2.fr md3.1 (fun i hi s => by rw [l3]) rfl) (D2.fr md3.1 (by rw [l3]) rfl) ((hI.cl hx (Or.inl rfl)).fa hx (Or.inr rfl)) hIL hx) ?_
      rintro _ ρ ⟨M4, L4, O4, C4⟩
      obtain ⟨S, eS⟩ : ∃ S, S = cloA (lpv vd) x 6 (wM s (setFa (setCl (sM s) x 0) x 1)) := ⟨_, rfl⟩
      rw [← eS] at eR M4 L4
      have := hQ ρ (by rw [eR]; exact M4) (by rw [eR]; exact L4) O4 (((mm.tr md3).csN hW rfl rfl).tr' (C4.wk rfl rfl (by omega) (by omega)))
      rw [eR] at this; exact this
    · rw [if_neg h3] at eR
      rw [if_pos (by rw [lgc_ge]; omega), wp_rz, wp_ite, if_pos rfl]
      refine ⟨Or.inl rfl, ?_⟩
      have := hQ ν (by rw [eR]; exact M2) (by rw [eR]; exact L2) O2 (mm.csN hW rfl rfl)
      rw [eR, a0] at this; exact this

theorem wp_cpyI {k0 k1 a0 a1 i j n : Nat} {μ : Mem} {Q : Unit → Mem → Prop} (hi : i < 2147483648) (hj : j < 2147483648) (hn : n < 2147483648) (h0 : mK μ a0 = k0) (h1 : mK μ a1 = k1) (h2 : i + n ≤ mN μ a0) (h3 : j + n ≤ mN μ a1) (hQ : Q () (cpI μ k0 a0 i k1 a1 j n)) : q_wp (cpyI k0 k1 (some a0) (q_i3 i) (some a1) (q_i3 j) (q_i3 n)) μ Q := by
  unfold cpyI
  rw [wp_bn, wp_pArr]
  refine ⟨h0, ?_⟩
  rw [wp_bn, wp_pArr]
  refine ⟨h1, ?_⟩
  simp only [q_wp, wp_if, i3_toNat hi, i3_toNat hj, i3_toNat hn]
  exact ⟨⟨i3_nn hi, i3_nn hj, i3_nn hn, h2, h3⟩, hQ⟩
theorem q_Fr.cpI (μ : Mem) (k0 a0 i k1 a1 j n : Nat) : q_Fr [2000 + k1] μ (cpI μ k0 a0 i k1 a1 j n) := by
  refine ⟨fun _ h => ⟨rfl, rfl, rfl⟩, fun k h => ⟨?_, rfl, rfl⟩, rfl, fun _ _ => ⟨rfl, rfl⟩, Nat.le_refl _, Nat.le_refl _⟩
  have hk : k ≠ k1 := fun q => nm1 h (by rw [q])
  funext b q
  show (if k = k1 ∧ b = a1 then _ else aI μ k b q) = _
  simp [hk]
theorem Zz.cpI {μ : Mem} (hz : Zz μ) {k0 a0 i k1 a1 j n : Nat} (h : mK μ a1 ≠ 0) : Zz (cpI μ k0 a0 i k1 a1 j n) := by
  intro b hb
  have hne : b ≠ a1 := by have := hz.lt h; have hb : mX μ ≤ b := hb; omega
  obtain ⟨h1, h2, h3, h4, h5, h6, hr⟩ := hz b hb
  refine ⟨h1, h2, h3, fun g q => ?_, h5, h6, hr⟩
  show (if g = k1 ∧ b = a1 then _ else aI μ g b q) = 0
  simp [hne, h4 g q]
theorem Md.cpI {μ : Mem} {k0 a0 i k1 a1 j n : Nat} (h : mK μ a1 ≠ 0) : Md [2000 + k1] μ (cpI μ k0 a0 i k1 a1 j n) := ⟨q_Fr.cpI μ k0 a0 i k1 a1 j n, fun z => z.cpI h, rfl, rfl, rfl, rfl, rfl, rfl⟩
theorem aI_cpI (μ : Mem) (k0 a0 i k1 a1 j n g c q : Nat) : aI (cpI μ k0 a0 i k1 a1 j n) g c q = if g = k1 ∧ c = a1 then va_cpy (aI μ k0 a0) (aI μ k1 a1) i j n q else aI μ g c q := rfl
theorem c_remember {μ : Mem} {b r : Nat} {v : q_VM} (hK : K0 μ b) (hW : WF μ) (hM : q_CM μ b v) (hn : vN v ≤ 12) (hR : DO μ r (vN v)) :
    q_wp (F_X11_rememberMembers b (some r)) μ (fun _ ν => Md [2088, 2097] μ ν ∧ (∀ i, i < vN v → aL ν 97 (r + 3) i = vPd v i - vCs v i ∧ ∀ j, j < 6 → aI ν 88 (r + 2) (6 * i + j) = vPs v i j) ∧ (∀ a, a ≠ r + 3 → aL ν 97 a = aL μ 97 a) ∧ ∀ a, a ≠ r + 2 → aI ν 88 a = aI μ 88 a) := by
  obtain ⟨d1, d2, d3, d4, d5, d6, d7, d8, d9, d10⟩ := hR
  unfold F_X11_rememberMembers
  have k33 := hK.k 33 14 (by decide)
  obtain ⟨t, ht, htx, htk⟩ := hW.2.1.1
  refine wp_loop (σ := Unit) (fun f k _ => F_X11_rememberMembers_L2 f b (some r) (q_i3 k)) (vN v) (fun k _ ν => Md [2088, 2097] μ ν ∧ (∀ i, i < k → aL ν 97 (r + 3) i = vPd v i - vCs v i ∧ ∀ j, j < 6 → aI ν 88 (r + 2) (6 * i + j) = vPs v i j) ∧ (∀ a, a ≠ r + 3 → aL ν 97 a = aL μ 97 a) ∧ ∀ a, a ≠ r + 2 → aI ν 88 a = aI μ 88 a) _ ?_ ?_ FU 0 () μ (by omega) (by show _ < 100000; omega) ⟨(Md.rf μ).wk rfl, fun i hi => by omega, fun _ _ => rfl, fun _ _ => rfl⟩
  · rintro f _ ν h
    show q_wp (F_X11_rememberMembers_L2 (f + 1) b (some r) (q_i3 (vN v))) ν _
    have K1 := h.1.k0 hK
    obtain ⟨W1, l1⟩ := h.1.wf hW rfl
    unfold F_X11_rememberMembers_L2
    rw [wp_bn, xgP11_3 K1, wp_bn, xpL_33 K1, wp_bn, wp_eq (ls_size W1 (K1.k 33 14 (by decide))), l1, hM.1, wp_ite, if_pos ((i3_le (by omega) (by omega)).mpr (Nat.le_refl _)), wp_rt]
    exact h
  · rintro f k _ ν hk ⟨md, g1, g2, g3⟩ ih
    show q_wp (F_X11_rememberMembers_L2 (f + 1) b (some r) (q_i3 k)) ν _
    have K1 := md.k0 hK
    obtain ⟨W1, l1⟩ := md.wf hW rfl
    have M1 : q_CM ν b v := hM.fr md.1 (by rw [l1]) rfl
    obtain ⟨⟨m1, m2, m3, m4⟩, p1, p2, p3, p4, p5⟩ := M1.2 k hk
    have r1 : mK ν r = 1 := by rw [md.2.2.1]; exact d1
    have r3 : mP ν (64 * 0 + 1) r = some (r + 2) := by rw [md.2.2.2.2.2.2.1]; exact d3
    have r4 : mP ν (64 * 0 + 2) r = some (r + 3) := by rw [md.2.2.2.2.2.2.1]; exact d4
    have r6 : mK ν (r + 2) = 88 := by rw [md.2.2.1]; exact d6
    have r7 : mK ν (r + 3) = 97 := by rw [md.2.2.1]; exact d7
    have r9 : mN ν (r + 2) = 6 * vN v := by rw [md.2.2.2.1]; exact d9
    have r10 : mN ν (r + 3) = vN v := by rw [md.2.2.2.1]; exact d10
    have nT : ¬ some (r + 3) = mT ν 0 := by rw [md.1.t, ht]; intro z; cases z; omega
    have nle : ¬ q_i3 (vN v) ≤ q_i3 k := fun z => by have := (i3_le (by omega) (by omega)).mp z; omega
    unfold F_X11_rememberMembers_L2
    rw [wp_bn, xgP11_3 K1, wp_bn, xpL_33 K1, wp_bn, wp_eq (ls_size W1 (K1.k 33 14 (by decide))), l1, hM.1, wp_ite, if_neg nle, wp_bn, wp_gP, r4]
    refine ⟨r1, ?_⟩
    rw [wp_bn, wp_len, if_neg nT, r10]
    refine ⟨by omega, ?_⟩
    rw [show Int32.ofNat (vN v) = q_i3 (vN v) from rfl, wp_ite, if_neg nle, wp_bn, xgP11_3 K1, wp_bn, xpL_33 K1, wp_bn, wp_eq (ls_get W1 (K1.k 33 14 (by decide)) (by rw [l1, hM.1]; exact hk)), wp_bn, wp_cst]
    refine ⟨m1, ?_⟩
    rw [wp_bn, wp_gP, r4]
    refine ⟨r1, ?_⟩
    rw [wp_bn, wp_gL, show mL ν (64 * 1 + 2) ((q_lst ν (b + 33)).getD k 0) = vPd v k from p1]
    refine ⟨m1, ?_⟩
    rw [wp_bn, wp_gL, show mL ν (64 * 1 + 1) ((q_lst ν (b + 33)).getD k 0) = vCs v k from p4]
    refine ⟨m1, ?_⟩
    rw [wp_bn, wp_stL, r10, inA_i3 (by omega), i3_toNat (by omega)]
    refine ⟨r7, hk, ?_⟩
    have md1 : Md [2000 + 97] ν (tL ν 97 (r + 3) k (vPd v k - vCs v k)) := Md.tL (by rw [r7]; omega)
    rw [wp_bn, wp_gP, show mP (tL ν 97 (r + 3) k (vPd v k - vCs v k)) (64 * 1 + 0) ((q_lst ν (b + 33)).getD k 0) = some (mr ν b k + 1) from m2]
    refine ⟨m1, ?_⟩
    rw [wp_bn, wp_gP, show mP (tL ν 97 (r + 3) k (vPd v k - vCs v k)) (64 * 0 + 1) r = some (r + 2) from r3]
    refine ⟨r1, ?_⟩
    rw [wp_bn, i3r6]
    refine wp_cpyI (i := 0) (n := 6) (by omega) (by omega) (by omega) m3 r6 (by show 0 + 6 ≤ mN ν (mr ν b k + 1); rw [m4]; omega) (by show k * 6 + 6 ≤ mN ν (r + 2); rw [r9]; omega) ?_
    rw [i3_1]
    have md2 : Md [2000 + 88] (tL ν 97 (r + 3) k (vPd v k - vCs v k)) (cpI (tL ν 97 (r + 3) k (vPd v k - vCs v k)) 104 (mr ν b k + 1) 0 88 (r + 2) (k * 6) 6) := Md.cpI (by show mK ν (r + 2) ≠ 0; omega)
    refine ih () _ ⟨((md.tr md1).tr md2).wk rfl, fun i hi => ⟨?_, fun j hj => ?_⟩, fun a ha => ?_, fun a ha => ?_⟩
    · show aL (tL ν 97 (r + 3) k (vPd v k - vCs v k)) 97 (r + 3) i = _
      rw [aL_tL']
      by_cases e : i = k
      · rw [if_pos ⟨rfl, rfl, e⟩, e]
      · rw [if_neg (fun z => e z.2.2)]; exact (g1 i (by omega)).1
    · rw [aI_cpI, if_pos ⟨rfl, rfl⟩]
      show va_cpy (aI ν 104 (mr ν b k + 1)) (aI ν 88 (r + 2)) 0 (k * 6) 6 (6 * i + j) = _
      unfold va_cpy
      by_cases e : i = k
      · rw [if_pos (by omega), e, show 0 + (6 * k + j - k * 6) = j by omega]; exact p5 j hj
      · rw [if_neg (by omega)]; exact (g1 i (by omega)).2 j hj
    · show aL (tL ν 97 (r + 3) k (vPd v k - vCs v k)) 97 a = _
      rw [← g2 a ha]; funext q; rw [aL_tL', if_neg (fun z => ha z.2.1)]
    · rw [← g3 a ha]; funext q
      rw [aI_cpI, if_neg (fun z => ha z.2)]; rfl

def q_nD (v : VD) (n : Nat) (P : Nat → Int32) (ba : Nat → Int64) (ps : Nat → Nat → Int32) : VD := (dT v + 1, q_upd (dSt v) (dT v) P, dRt v, q_upd (dNm v) (dT v) n, q_upd (dBa v) (dT v) ba, q_upd (dPs v) (dT v) ps)
theorem c_nightL {b c nt : Nat} {vd : VD} {ru : List q_Ru} {T : Int32} {x1 : Option Nat} {B : Int} {s : q_St} {μ : Mem} {Q : Int32 → Mem → Prop} (hB : B ≤ 90000) (hc : nt + c ≤ 2000) (hK : K0 μ b) (hW : WF μ) (hM : q_CM μ b (sM s)) (hL : q_CL μ b (sG s)) (hO : q_CO μ b (sO s)) (hD : CDx μ b vd) (hU : CU μ b ru) (hT : mI μ 712 b = T) (hI : IMb (sM s) B) (hIL : q_IL (sG s) (vN (sM s)) nt c)
    (hQ : ∀ ν, q_CM ν b (sM (nmL ru T (lpv vd) (vN (sM s)) s).2) → q_CL ν b (sG (nmL ru T (lpv vd) (vN (sM s)) s).2) → q_CO ν b (sO s) → Cs NCS LGS 0 0 b μ ν → q_wp (bn (pRc 11 (some b)) fun b22 => bn (F_X11_rememberMembers b22 x1) fun _ => bn (gI 11 8 (some b)) fun v23 => bn (wI 11 8 (some b) (v23 + (1 : Int32))) fun _ => rt (nmL ru T (lpv vd) (vN (sM s)) s).1) ν Q) :
    q_wp (F_X11_night_L96 FU b x1 0 0) μ Q := by
  have h12 := hI.1
  refine wp_loop (σ := Int32) (fun f k x => F_X11_night_L96 f b x1 x (q_i3 k)) (vN (sM s)) (fun k x ν => x = (nmL ru T (lpv vd) k s).1 ∧ q_CM ν b (sM (nmL ru T (lpv vd) k s).2) ∧ q_CL ν b (sG (nmL ru T (lpv vd) k s).2) ∧ q_CO ν b (sO s) ∧ Cs NCS LGS 0 0 b μ ν) _ ?_ ?_ FU 0 0 μ (by omega) (by show _ < 100000; omega) ⟨rfl, hM, hL, hO, (Cs.rf hW).wk rfl rfl (by omega) (by omega)⟩
  · rintro f x ν ⟨rfl, M1, L1, O1, C1⟩
    show q_wp (F_X11_night_L96 (f + 1) b x1 _ (q_i3 (vN (sM s)))) ν Q
    have K1 := C1.k0 hK rfl
    obtain ⟨_, _, v1, _⟩ := nmL_ok (ru := ru) (T := T) (P := lpv vd) (by omega) hI hIL (vN (sM s)) (Nat.le_refl _)
    unfold F_X11_night_L96
    rw [wp_bn, xgP11_3 K1, wp_bn, xpL_33 K1, wp_bn, wp_eq (ls_size C1.1 (K1.k 33 14 (by decide))), M1.1, v1, wp_ite, if_pos ((i3_le (by omega) (by omega)).mpr (Nat.le_refl _))]
    exact hQ ν M1 L1 O1 C1
  · rintro f k x ν hk ⟨rfl, M1, L1, O1, C1⟩ ih
    show q_wp (F_X11_night_L96 (f + 1) b x1 _ (q_i3 k)) ν Q
    have K1 := C1.k0 hK rfl
    obtain ⟨i1, l1, v1, z1⟩ := nmL_ok (ru := ru) (T := T) (P := lpv vd) (by omega) hI hIL k (by omega)
    obtain ⟨S, eS⟩ : ∃ S, S = (nmL ru T (lpv vd) k s) := ⟨_, rfl⟩
    have eK : nmL ru T (lpv vd) (k + 1) s = (S.1 + (nmS ru T (lpv vd) k S.2).1, (nmS ru T (lpv vd) k S.2).2) := by rw [eS]; rfl
    rw [eK] at ih
    rw [← eS] at M1 L1 i1 l1 v1 z1 ⊢
    have k33 := K1.k 33 14 (by decide)
    unfold F_X11_night_L96 F_X11_night_L133
    rw [wp_bn, xgP11_3 K1, wp_bn, xpL_33 K1, wp_bn, wp_eq (ls_size C1.1 k33), M1.1, v1, wp_ite, if_neg (fun z => by have := (i3_le (by omega) (by omega)).mp z; omega), wp_bn, xgP11_3 K1, wp_bn, xpL_33 K1, wp_bn, wp_eq (ls_get C1.1 k33 (by rw [M1.1, v1]; exact hk)), wp_bn, wp_cst]
    refine ⟨(M1.2 k (by rw [v1]; exact hk)).1.1, ?_⟩
    rw [wp_bn, xpR11 K1]
    have O1' : q_CO ν b (sO S.2) := by
      have : sO S.2 = sO s := by unfold sO; rw [z1]
      rw [this]; exact O1
    refine c_night1 (KA := fun y => F_X11_night_L96 f b x1 y (q_i3 k + 1)) hB hc K1 C1.1 M1 L1 O1' (hD.fr C1.2.1 (C1.2.2.1 37 (by decide) (by decide)) rfl) (hU.fr C1.2.1 (C1.2.2.1 5 (by decide) (by decide)) rfl) (T := T) (by rw [C1.2.1.i 712 rfl]; exact hT) i1 (by rw [v1]; exact l1) (by rw [v1]; exact hk) ?_
    intro ρ M2 L2 O2 C2
    show q_wp (F_X11_night_L96 f b x1 _ (q_i3 k + 1)) ρ Q
    rw [i3_1]
    refine ih _ ρ ⟨rfl, M2, L2, ?_, C1.tr' C2⟩
    have : sO S.2 = sO s := by unfold sO; rw [z1]
    rw [← this]; exact O2
theorem nD_chn {v : VD} {n m j d : Nat} {P : Nat → Int32} {ba : Nat → Int64} {ps : Nat → Nat → Int32} (hI : ID v m) (hd : d ≤ dT v) : chn (q_nD v n P ba ps) d j = if d = dT v then (if P j = -1 then [] else [(P j, q_i3 (dT v))]) else chn v d j := by
  unfold chn
  by_cases e : d = dT v
  · rw [if_pos e]
    have e1 : dSt (q_nD v n P ba ps) d j = P j := by show q_upd (dSt v) (dT v) P d j = _; unfold q_upd; rw [if_pos e]
    rw [e1]
    have : (dRt (q_nD v n P ba ps)).filter (fun q => q.1 = q_i3 j ∧ q.2.1 = q_i3 d) = [] := by
      rw [List.filter_eq_nil_iff]
      intro q hq
      have := hI.2.2.2.1 q hq
      have hb := hI.1
      simp only [decide_eq_true_eq, not_and]
      intro _ z
      have h2 := this.2.1.2
      rw [z, i3_toInt (by omega)] at h2
      omega
    rw [this, e]; rfl
  · rw [if_neg e]
    have e1 : dSt (q_nD v n P ba ps) d j = dSt v d j := by show q_upd (dSt v) (dT v) P d j = _; unfold q_upd; rw [if_neg e]
    rw [e1]; rfl
theorem nD_lpv {v : VD} {n m j : Nat} {P : Nat → Int32} {ba : Nat → Int64} {ps : Nat → Nat → Int32} (hI : ID v m) : lpv (q_nD v n P ba ps) j = pz (P j) := by
  unfold lpv
  have e1 : dT (q_nD v n P ba ps) = dT v + 1 := rfl
  rw [e1, if_neg (by omega), show dT v + 1 - 1 = dT v by omega, nD_chn hI (Nat.le_refl _), if_pos rfl]
  unfold pz
  split
  · rfl
  · rfl
theorem CDx_set {μ ν : Mem} {b n : Nat} {v : VD} {P : Nat → Int32} {ba ba' : Nat → Int64} {ps ps' : Nat → Nat → Int32} {m : Nat} (hI : ID v m) (hK : K0 μ b) (hW : WF μ) (h : CDx μ b (q_nD v n P ba ps)) (md : Md [2088, 2097] μ ν)
    (g1 : ∀ i, i < n → aL ν 97 (dy μ b (dT v) + 3) i = ba' i ∧ ∀ j, j < 6 → aI ν 88 (dy μ b (dT v) + 2) (6 * i + j) = ps' i j) (g2 : ∀ a, a ≠ dy μ b (dT v) + 3 → aL ν 97 a = aL μ 97 a) (g3 : ∀ a, a ≠ dy μ b (dT v) + 2 → aI ν 88 a = aI μ 88 a) : CDx ν b (q_nD v n P ba' ps') := by
  obtain ⟨h2, h3, h4⟩ := id h
  obtain ⟨W1, l1⟩ := md.wf hW rfl
  have f := md.1
  have el : ∀ i, dy ν b i = dy μ b i := fun i => by unfold dy; rw [l1]
  refine ⟨by rw [f.i 714 rfl]; exact h2, by rw [l1]; exact h3, fun d hd => ?_⟩
  obtain ⟨⟨d1, d2, d3, d4, d5, d6, d7, d8, d9, d10⟩, q1, q2⟩ := h4 d hd
  have hd' : d ≤ dT v := by have : d < dT v + 1 := hd; omega
  rw [el, f.ap 86 rfl]
  have e0 : dNm (q_nD v n P ba' ps') d = dNm (q_nD v n P ba ps) d := rfl
  rw [e0]
  refine ⟨⟨f.k d1 (by omega), by rw [f.p 0 rfl]; exact d2, by rw [f.p 1 rfl]; exact d3, by rw [f.p 2 rfl]; exact d4, f.k d5 (by omega), f.k d6 (by omega), f.k d7 (by omega), f.n (by omega) d8, f.n (by omega) d9, f.n (by omega) d10⟩, fun j hj => ?_, fun i hi => ?_⟩
  · have ec : chn (q_nD v n P ba' ps') d j = chn (q_nD v n P ba ps) d j := rfl
    rw [ec]
    exact Ch.fr (fun a ha => f.k rfl ha) (fun a _ => ⟨by rw [f.i 512 rfl], by rw [f.i 513 rfl], by rw [f.p 514 rfl]⟩) _ _ (q1 j hj)
  · by_cases e : d = dT v
    · subst e
      have hi' : i < n := by
        have e1 : dNm (q_nD v n P ba ps) (dT v) = n := by show q_upd (dNm v) (dT v) n (dT v) = n; unfold q_upd; rw [if_pos rfl]
        rw [e1] at hi; exact hi
      have e2 : dBa (q_nD v n P ba' ps') (dT v) i = ba' i := by show q_upd (dBa v) (dT v) ba' (dT v) i = _; unfold q_upd; rw [if_pos rfl]
      have e3 : ∀ j, dPs (q_nD v n P ba' ps') (dT v) i j = ps' i j := fun j => by show q_upd (dPs v) (dT v) ps' (dT v) i j = _; unfold q_upd; rw [if_pos rfl]
      rw [e2]
      refine ⟨(g1 i hi').1, fun j hj => ?_⟩
      rw [e3]; exact (g1 i hi').2 j hj
    · have hne : dy μ b d ≠ dy μ b (dT v) := fun z => e (dy_ne hK hW h hd (by show dT v < dT v + 1; omega) z)
      rw [g2 _ (by omega), g3 _ (by omega)]
      have e2 : dBa (q_nD v n P ba' ps') d = dBa (q_nD v n P ba ps) d := by show q_upd (dBa v) (dT v) ba' d = q_upd (dBa v) (dT v) ba d; unfold q_upd; rw [if_neg e, if_neg e]
      have e3 : dPs (q_nD v n P ba' ps') d = dPs (q_nD v n P ba ps) d := by show q_upd (dPs v) (dT v) ps' d = q_upd (dPs v) (dT v) ps d; unfold q_upd; rw [if_neg e, if_neg e]
      rw [e2, e3]; exact q2 i hi

def hitE (v : q_VT) (T j : Int32) (t : Nat) : Bool := v.2 t 0 == j && v.2 t 5 == T && v.2 t 6 == 0
def q_endP (v : q_VT) (vd : VD) (j : Nat) : Int32 := match q_lastK (hitE v (q_i3 (dT vd)) (q_i3 j)) v.1 with
  | some t => v.2 t 1
  | none => lat vd j
def endC (v : q_VT) (vd : VD) (j : Nat) (t : Nat) : Int32 := match q_lastK (hitE v (q_i3 (dT vd)) (q_i3 j)) t with
  | some t => v.2 t 1
  | none => lpv vd j
theorem lastK_no {p : Nat → Bool} : ∀ {n : Nat}, (∀ a, a < n → p a = false) → q_lastK p n = none
  | 0, _ => rfl
  | n + 1, h => by
    unfold q_lastK
    rw [if_neg (by rw [h n (by omega)]; decide)]
    exact lastK_no fun a ha => h a (by omega)
theorem IT.mono {v : q_VT} {n T : Nat} (h : IT v n T) : ∀ d a, a + d < v.1 → (v.2 a 5).toInt ≤ (v.2 (a + d) 5).toInt
  | 0, a, _ => Int.le_refl _
  | d + 1, a, hd => Int.le_trans (IT.mono h d a (by omega)) (h.2.2 (a + d) (by omega))
theorem c_endL {μ : Mem} {b j n : Nat} {v : q_VT} {vd : VD} (hK : K0 μ b) (hW : WF μ) (hT : CT μ b v) (hD : CDx μ b vd) (h712 : mI μ 712 b = q_i3 (dT vd)) (hI : IT v n (dT vd)) (hd : dT vd ≤ 150) (hj : j < 6) : ∀ (t f : Nat), t ≤ v.1 → t < f → F_X11_endPrice_L10 f b (q_i3 j) (q_i3 t - 1) μ = some (endC v vd j t, μ) := by
  have k34 := hK.k 34 14 (by decide)
  have h700 := hI.1
  have L73 : q_wp (F_X11_endPrice_L73 b (q_i3 j)) μ (fun r μ' => r = lpv vd j ∧ μ' = μ) := by
    unfold F_X11_endPrice_L73
    rw [wp_bn, xpR11 hK, wp_bn, wp_eq (c_lp hK hW hD hj), wp_rt]; exact ⟨rfl, rfl⟩
  intro t
  induction t with
  | zero =>
    intro f _ hf
    obtain ⟨f, rfl⟩ : ∃ g, f = g + 1 := ⟨f - 1, by omega⟩
    apply eq_wp
    unfold F_X11_endPrice_L10
    rw [wp_ite, if_pos (by decide)]
    exact L73
  | succ t ih =>
    intro f ht hf
    obtain ⟨f, rfl⟩ : ∃ g, f = g + 1 := ⟨f - 1, by omega⟩
    apply eq_wp
    obtain ⟨q1, q2⟩ := hT.2 t (by omega)
    have q1' : mK μ ((q_lst μ (b + 34)).getD t 0) = 10 + 1 := q1
    unfold F_X11_endPrice_L10 F_X11_endPrice_L67
    have eg := ls_get hW k34 (i := t) (by rw [hT.1]; omega)
    rw [i3_s1, wp_ite, if_neg (i3_nn (by omega)), wp_bn, xgP11_4 hK, wp_bn, xpL_34 hK, wp_bn, wp_eq eg, wp_bn, wp_cst]
    refine ⟨q1', ?_⟩
    rw [wp_bn, wp_gI, show mI μ (64 * 10 + 5) ((q_lst μ (b + 34)).getD t 0) = v.2 t 5 from q2 5 (by omega)]
    refine ⟨q1', ?_⟩
    rw [wp_bn, xgI11 hK, show mI μ (64 * 11 + 8) b = q_i3 (dT vd) from h712, wp_ite]
    have stp : endC v vd j (t + 1) = if hitE v (q_i3 (dT vd)) (q_i3 j) t = true then v.2 t 1 else endC v vd j t := by
      unfold endC
      show (match (if hitE v (q_i3 (dT vd)) (q_i3 j) t = true then some t else q_lastK (hitE v (q_i3 (dT vd)) (q_i3 j)) t) with | some t => v.2 t 1 | none => lpv vd j) = _
      split
      · rename_i h; split at h
        · cases h; rw [if_pos (by assumption)]
        · rename_i h2; rw [if_neg h2, h]
      · rename_i h; split at h
        · cases h
        · rename_i h2; rw [if_neg h2, h]
    by_cases e5 : v.2 t 5 = q_i3 (dT vd)
    · rw [if_neg (fun z => z e5), wp_bn, xgP11_4 hK, wp_bn, xpL_34 hK, wp_bn, wp_eq eg, wp_bn, wp_cst]
      refine ⟨q1', ?_⟩
      rw [wp_bn, wp_gI, show mI μ (64 * 10 + 0) ((q_lst μ (b + 34)).getD t 0) = v.2 t 0 from q2 0 (by omega)]
      refine ⟨q1', ?_⟩
      rw [i3_m1, wp_ite, stp]
      by_cases e0 : v.2 t 0 = q_i3 j
      · rw [if_neg (fun z => z e0), wp_bn, wp_gI, show mI μ (64 * 10 + 6) ((q_lst μ (b + 34)).getD t 0) = v.2 t 6 from q2 6 (by omega)]
        refine ⟨q1', ?_⟩
        rw [wp_ite]
        by_cases e6 : v.2 t 6 = 0
        · rw [if_neg (fun z => z e6), wp_bn, wp_gI, show mI μ (64 * 10 + 1) ((q_lst μ (b + 34)).getD t 0) = v.2 t 1 from q2 1 (by omega), wp_rt]
          refine ⟨q1', ?_, rfl⟩
          rw [if_pos (by unfold hitE; rw [e0, e5, e6]; simp)]
        · rw [if_pos e6, if_neg (by unfold hitE; simp [e6]), wp_eq (ih f (by omega) (by omega))]
          exact ⟨rfl, rfl⟩
      · rw [if_pos e0, if_neg (by unfold hitE; simp [e0]), wp_eq (ih f (by omega) (by omega))]
        exact ⟨rfl, rfl⟩
    · rw [if_pos e5]
      have : endC v vd j (t + 1) = lpv vd j := by
        unfold endC
        rw [lastK_no]
        intro a ha
        have := hI.mono (t - a) a (by omega)
        rw [show a + (t - a) = t by omega] at this
        have h5 := (hI.2.1 t (by omega)).2.2.2.2.2.2.2.1.2
        have : (v.2 a 5).toInt < dT vd := by
          have : (v.2 t 5).toInt ≠ dT vd := fun z => e5 (Int32.toInt_inj.mp (by rw [z, i3_toInt (by omega)]))
          omega
        have : ¬ v.2 a 5 = q_i3 (dT vd) := fun z => by rw [z, i3_toInt (by omega)] at this; omega
        unfold hitE; simp [this]
      rw [this]; exact L73
theorem endP_C {v : q_VT} {vd : VD} {n m j : Nat} (hI : IT v n (dT vd)) (hID : ID vd m) (hj : j < 6) : endC v vd j v.1 = pz (q_endP v vd j) := by
  unfold endC q_endP
  split
  · rename_i t h
    have := (hI.2.1 t (lastK_some h).1).2.1
    unfold pz
    rw [if_neg]
    intro z
    rw [z] at this
    exact absurd this (by decide)
  · exact lpv_lat hID hj
theorem c_endPrice {μ : Mem} {b j n m : Nat} {v : q_VT} {vd : VD} (hK : K0 μ b) (hW : WF μ) (hT : CT μ b v) (hD : CDx μ b vd) (h712 : mI μ 712 b = q_i3 (dT vd)) (hI : IT v n (dT vd)) (hID : ID vd m) (hj : j < 6) : F_X11_endPrice b (q_i3 j) μ = some (pz (q_endP v vd j), μ) := by
  apply eq_wp
  have h700 := hI.1
  unfold F_X11_endPrice
  rw [wp_bn, xgP11_4 hK, wp_bn, xpL_34 hK, wp_bn, wp_eq (ls_size hW (hK.k 34 14 (by decide))), hT.1, wp_eq (c_endL hK hW hT hD h712 hI hID.1 hj v.1 FU (Nat.le_refl _) (by show _ < 100000; omega))]
  exact ⟨endP_C hI hID hj, rfl⟩
theorem endP_bd {v : q_VT} {vd : VD} {n m j : Nat} (hI : IT v n (dT vd)) (hID : ID vd m) (hj : j < 6) : q_endP v vd j = -1 ∨ (1 ≤ (q_endP v vd j).toInt ∧ (q_endP v vd j).toInt ≤ 10000) := by
  unfold q_endP
  split
  · rename_i t h
    have := hI.2.1 t (lastK_some h).1
    exact Or.inr ⟨this.2.1, this.2.2.1⟩
  · unfold lat
    by_cases h0 : dT vd = 0
    · rw [if_pos h0]; exact Or.inl rfl
    · rw [if_neg h0]
      have hb := hID.1
      obtain ⟨_, a2, a3⟩ := st_lk (k := q_i3 (dT vd)) hID hj (show dT vd - 1 < dT vd by omega) (fun z => by have := (i3_lt (by omega) (by omega)).mp z; omega)
      by_cases h1 : dSt vd (dT vd - 1) j = -1
      · exact Or.inl (a2 h1)
      · exact Or.inr (a3 h1)
def offN (os : List Od) : Nat → List Od
  | 0 => os
  | k + 1 => offT (offN os k) (q_i3 k)
theorem offN_mem {os : List Od} {x : Od} : ∀ k, x ∈ offN os k → x ∈ os ∧ ∀ i, i < k → oT x ≠ q_i3 i
  | 0, h => ⟨h, fun i hi => by omega⟩
  | k + 1, h => by
    have h : x ∈ (offN os k).filter fun x => ! (oT x == q_i3 k) := h
    rw [List.mem_filter] at h
    obtain ⟨h1, h2⟩ := offN_mem k h.1
    refine ⟨h1, fun i hi => ?_⟩
    by_cases e : i = k
    · rw [e]; simpa using h.2
    · exact h2 i (by omega)
theorem offN_len {os : List Od} : ∀ k, (offN os k).length ≤ os.length
  | 0 => Nat.le_refl _
  | k + 1 => Nat.le_trans (List.length_filter_le _ _) (offN_len k)
theorem offN_6 {os : List Od} (h : ∀ x, x ∈ os → q_inR (oT x) 6) : offN os 6 = [] := by
  apply List.eq_nil_iff_forall_not_mem.mpr
  intro x hx
  obtain ⟨h1, h2⟩ := offN_mem 6 hx
  obtain ⟨i, hi, e⟩ := inR_i3 (h x h1)
  exact h2 i hi e
def OldD (μ ν : Mem) : Prop := (∀ a, mK μ a = 1 → mP ν 0 a = mP μ 0 a ∧ mP ν 1 a = mP μ 1 a ∧ mP ν 2 a = mP μ 2 a) ∧ (∀ a, mK μ a = 9 → mI ν 512 a = mI μ 512 a ∧ mI ν 513 a = mI μ 513 a ∧ mP ν 514 a = mP μ 514 a) ∧ (∀ a, mK μ a = 86 → aP ν 86 a = aP μ 86 a) ∧ (∀ a, mK μ a = 88 → aI ν 88 a = aI μ 88 a) ∧ (∀ a, mK μ a = 97 → aL ν 97 a = aL μ 97 a)
theorem CDx.old {S : List Nat} {μ ν : Mem} {b : Nat} {v : VD} (h : CDx μ b v) (f : q_Fr S μ ν) (hS : S.contains 714 = false) (o : OldD μ ν) (hl : q_lst ν (b + 37) = q_lst μ (b + 37)) : CDx ν b v := by
  obtain ⟨h2, h3, h4⟩ := h
  obtain ⟨o1, o2, o3, o4, o5⟩ := o
  have el : ∀ i, dy ν b i = dy μ b i := fun i => by unfold dy; rw [hl]
  refine ⟨by rw [f.i 714 hS]; exact h2, by rw [hl]; exact h3, fun d hd => ?_⟩
  obtain ⟨⟨d1, d2, d3, d4, d5, d6, d7, d8, d9, d10⟩, g1, g2⟩ := h4 d hd
  obtain ⟨e1, e2, e3⟩ := o1 _ d1
  rw [el, o5 _ d7, o4 _ d6, o3 _ d5]
  refine ⟨⟨f.k d1 (by omega), by rw [e1]; exact d2, by rw [e2]; exact d3, by rw [e3]; exact d4, f.k d5 (by omega), f.k d6 (by omega), f.k d7 (by omega), f.n (by omega) d8, f.n (by omega) d9, f.n (by omega) d10⟩, fun j hj => ?_, g2⟩
  exact Ch.fr (fun a ha => f.k rfl ha) o2 _ _ (g1 j hj)
theorem OldD.tr {μ ν ρ : Mem} {S : List Nat} (h : OldD μ ν) (g : OldD ν ρ) (f : q_Fr S μ ν) : OldD μ ρ := by
  obtain ⟨h1, h2, h3, h4, h5⟩ := h
  obtain ⟨g1, g2, g3, g4, g5⟩ := g
  refine ⟨fun a ha => ?_, fun a ha => ?_, fun a ha => ?_, fun a ha => ?_, fun a ha => ?_⟩
  · obtain ⟨p1, p2, p3⟩ := h1 a ha
    obtain ⟨q1, q2, q3⟩ := g1 a (f.k ha (by omega))
    exact ⟨q1.trans p1, q2.trans p2, q3.trans p3⟩
  · obtain ⟨p1, p2, p3⟩ := h2 a ha
    obtain ⟨q1, q2, q3⟩ := g2 a (f.k ha (by omega))
    exact ⟨q1.trans p1, q2.trans p2, q3.trans p3⟩
  · exact (g3 a (f.k ha (by omega))).trans (h3 a ha)
  · exact (g4 a (f.k ha (by omega))).trans (h4 a ha)
  · exact (g5 a (f.k ha (by omega))).trans (h5 a ha)
theorem OldD.of {μ ν : Mem} {S : List Nat} (f : q_Fr S μ ν) (hS : disj [0, 1, 2, 512, 513, 514, 2086, 2088, 2097] S = true) : OldD μ ν :=
  ⟨fun a _ => ⟨by rw [f.p 0 (disj_nc hS (by decide))], by rw [f.p 1 (disj_nc hS (by decide))], by rw [f.p 2 (disj_nc hS (by decide))]⟩, fun a _ => ⟨by rw [f.i 512 (disj_nc hS (by decide))], by rw [f.i 513 (disj_nc hS (by decide))], by rw [f.p 514 (disj_nc hS (by decide))]⟩, fun a _ => by rw [f.ap 86 (disj_nc hS (by decide))], fun a _ => by rw [f.ai 88 (disj_nc hS (by decide))], fun a _ => by rw [f.alg 97 (disj_nc hS (by decide))]⟩
theorem c_dropAll' {μ : Mem} {b i r : Nat} {v : q_VO} (hK : K0 μ b) (hW : WF μ) (hO : q_CO μ b v) (hi : i < 6) (hl : v.1.length ≤ 120) (hr : ∀ a, mK μ a = 14 → r ∉ q_lst μ a) : q_wp (F_X2_dropAll (b + (9 + 4 * i))) μ (fun _ ν => q_CO ν b (offT v.1 (q_i3 i), v.2) ∧ Cs [832, 833, 834, 2372] [10 + 4 * i, 11 + 4 * i] 2 0 b μ ν ∧ ∀ a, mK ν a = 14 → r ∉ q_lst ν a) := by
  unfold F_X2_dropAll
  have lu : ∀ {a c : Nat} {μ ν : Mem}, LU a [] c μ ν → (∀ a, mK μ a = 14 → r ∉ q_lst μ a) → ∀ a, mK ν a = 14 → r ∉ q_lst ν a := by
    intro a c μ ν u h d hd
    by_cases e : d = a
    · rw [e, u.2.2.1]; simp
    · have := u.2.2.2.2.1 d hd
      rw [u.2.2.2.1 d this e]; exact h d this
  obtain ⟨_, _, _, _, k1, k0, _⟩ := hK.mo hi
  simp (maxSteps := 2000000) (disch := first | assumption | omega | (simp only [K0_sI, K0_sL, K0_tI, K0_tL, K0_nE]; assumption)) only [wp_bn, xgI11, xgL11, xwI11, xpR11, xgI4, xgL4, xwI4, xpR4, xgI7, xgL7, xwI7, xpR7, xgI12, xgL12, xwI12, xpR12, xgP11_0, xgP11_1, xgP11_2, xgP11_3, xgP11_4, xgP11_5, xgP11_6, xgP11_7, xgP4_0, xl115, xs115, xgP4_9, xl120, xs120, xgP7_0, xgP7_1, xl136, xs136, xgP7_2, xl144, xs144, xgP12_0, xl160, xs160, xgP12_4, xl168, xs168, xgP12_5, xl176, xs176, xgP12_6, xl184, xs184, xgP12_7, xl192, xs192, xgP12_8, xl200, xs200, xgP12_11, xl209, xs209, xgP12_12, xl218, xs218, xgP12_13, xl226, xs226, xgP12_14, xl232, xs232, xgP12_15, xl241, xs241, xgP12_16, xl248, xs248, xgP12_17, xl256, xs256, xgP12_18, xl264, xs264, xgP12_19, xl274, xs274, xgP12_20, xl280, xs280, xgP12_22, xl288, xs288, xgP12_25, xl296, xs296, xgP12_26, xl305, xs305, xgP12_27, xl312, xs312, xgP12_28, xl321, xs321, xgP12_29, xl328, xs328, xgP12_31, xl336, xs336, xgP12_33, xl344, xs344, xgP12_46, xl352, xs352, xgP12_47, xl360, xs360, xgP2_0, xpL2_0, xgP2_1, xpL2_1, xgP2_2, xpL2_2, xgI2, xwZ2, xpR2, xmo, xpL_5, xpL_33, xpL_34, xpL_35, xpL_36, xpL_37]
  have hl1 := co_len hO hi (s := 1) (Or.inr rfl)
  have hl2 := side_le v.1 (q_i3 i) 1
  rw [sdO1] at hl1
  refine q_wp_mono (ls_clr hW k1 (by omega)) ?_
  intro _ μ1 u1
  have r1 := lu u1 hr
  have hC1 := u1.cs hK
  have K1 := hC1.k0 hK rfl
  rw [← sdO1] at u1
  have hO1 := co_clr hK hO hi (Or.inr rfl) u1
  obtain ⟨_, _, _, _, k1', k0', _⟩ := K1.mo hi
  simp (maxSteps := 2000000) (disch := first | assumption | omega | (simp only [K0_sI, K0_sL, K0_tI, K0_tL, K0_nE]; assumption)) only [wp_bn, xgI11, xgL11, xwI11, xpR11, xgI4, xgL4, xwI4, xpR4, xgI7, xgL7, xwI7, xpR7, xgI12, xgL12, xwI12, xpR12, xgP11_0, xgP11_1, xgP11_2, xgP11_3, xgP11_4, xgP11_5, xgP11_6, xgP11_7, xgP4_0, xl115, xs115, xgP4_9, xl120, xs120, xgP7_0, xgP7_1, xl136, xs136, xgP7_2, xl144, xs144, xgP12_0, xl160, xs160, xgP12_4, xl168, xs168, xgP12_5, xl176, xs176, xgP12_6, xl184, xs184, xgP12_7, xl192, xs192, xgP12_8, xl200, xs200, xgP12_11, xl209, xs209, xgP12_12, xl218, xs218, xgP12_13, xl226, xs226, xgP12_14, xl232, xs232, xgP12_15, xl241, xs241, xgP12_16, xl248, xs248, xgP12_17, xl256, xs256, xgP12_18, xl264, xs264, xgP12_19, xl274, xs274, xgP12_20, xl280, xs280, xgP12_22, xl288, xs288, xgP12_25, xl296, xs296, xgP12_26, xl305, xs305, xgP12_27, xl312, xs312, xgP12_28, xl321, xs321, xgP12_29, xl328, xs328, xgP12_31, xl336, xs336, xgP12_33, xl344, xs344, xgP12_46, xl352, xs352, xgP12_47, xl360, xs360, xgP2_0, xpL2_0, xgP2_1, xpL2_1, xgP2_2, xpL2_2, xgI2, xwZ2, xpR2, xmo, xpL_5, xpL_33, xpL_34, xpL_35, xpL_36, xpL_37]
  have hl3 := co_len hO1 hi (s := 0) (Or.inl rfl)
  have hl4 := side_le (offS v.1 (q_i3 i) 1) (q_i3 i) 0
  have hl5 : (offS v.1 (q_i3 i) 1).length ≤ v.1.length := List.length_filter_le _ _
  rw [sdO0] at hl3
  refine q_wp_mono (ls_clr hC1.1 k0' (by have hl3 : _ = (q_side (offS v.1 (q_i3 i) 1) (q_i3 i) 0).length := hl3; omega)) ?_
  intro _ μ2 u2
  have r2 := lu u2 r1
  have hC2 := u2.cs K1
  rw [← sdO0] at u2
  have hO2 := co_clr K1 hO1 hi (Or.inl rfl) u2
  rw [wp_rt]
  refine ⟨?_, (hC1.tr hC2).wk rfl (by unfold subL; simp) (by omega) (by omega), r2⟩
  have := off2 (t := q_i3 i) (fun x hx => (hO.2.2.2.1 x hx).2.1)
  rw [← this]; exact hO2

def q_NS : List Nat := [832, 833, 834, 2372, 512, 513, 514, 2086, 0, 1, 2]
def SDS : List Nat := [10, 11, 14, 15, 18, 19, 22, 23, 26, 27, 30, 31]
theorem SDS_sub {k : Nat} (hk : k < 6) : subL [10 + 4 * k, 11 + 4 * k] SDS = true := by
  have : ∀ i : Fin 6, subL [10 + 4 * i.1, 11 + 4 * i.1] SDS = true := by decide
  exact this ⟨k, hk⟩
def chP (P : Nat → Int32) (T i : Nat) : List (Int32 × Int32) := if P i = -1 then [] else [(P i, q_i3 T)]
def NI (μ : Mem) (b : Nat) (s : q_St) (r : Nat) (P : Nat → Int32) (k : Nat) (ν : Mem) : Prop :=
  Cs q_NS SDS (4 + 3 * k) (9 + 7 * vN (sM s) + 3 * k) b μ ν ∧ (∀ a, mK ν a = 14 → r ∉ q_lst ν a) ∧ OldD μ ν ∧ q_CO ν b (offN (sO s).1 k, (sO s).2) ∧ DO ν r (vN (sM s)) ∧ (∀ i, i < k → Ch ν (aP ν 86 (r + 1) i) (chP P (dT (sD s)) i)) ∧ (∀ i, aL ν 97 (r + 3) i = 0) ∧ ∀ i, aI ν 88 (r + 2) i = 0
theorem DO.fr {S : List Nat} {μ ν : Mem} {r n : Nat} (h : DO μ r n) (f : q_Fr S μ ν) (hS : disj [0, 1, 2] S = true) : DO ν r n := by
  obtain ⟨d1, d2, d3, d4, d5, d6, d7, d8, d9, d10⟩ := h
  exact ⟨f.k d1 (by omega), by rw [f.p 0 (disj_nc hS (by decide))]; exact d2, by rw [f.p 1 (disj_nc hS (by decide))]; exact d3, by rw [f.p 2 (disj_nc hS (by decide))]; exact d4, f.k d5 (by omega), f.k d6 (by omega), f.k d7 (by omega), f.n (by omega) d8, f.n (by omega) d9, f.n (by omega) d10⟩
theorem pz_ne {x : Int32} (h : x = -1 ∨ (1 ≤ x.toInt ∧ x.toInt ≤ 10000)) : (pz x = 0 ↔ x = -1) ∧ (x ≠ -1 → pz x = x) := by
  unfold pz
  by_cases e : x = -1
  · rw [if_pos e]; exact ⟨⟨fun _ => e, fun _ => rfl⟩, fun z => absurd e z⟩
  · rw [if_neg e]
    refine ⟨⟨fun z => ?_, fun z => absurd z e⟩, fun _ => rfl⟩
    have := h.resolve_left e
    rw [z] at this
    exact absurd this.1 (by decide)
theorem c_nightMo {μ : Mem} {b r c : Nat} {s : q_St} {Q : Int32 → Mem → Prop} (hK : K0 μ b) (hA : q_AC μ b s) (hI : Iv s c) (hrx : ∀ a, mK μ a ≠ 0 → a ≠ r ∧ a ≠ r + 1 ∧ a ≠ r + 2 ∧ a ≠ r + 3) {ν0 : Mem} (h0 : NI μ b s r (q_endP (sT s) (sD s)) 0 ν0)
    (hQ : ∀ ν, NI μ b s r (q_endP (sT s) (sD s)) 6 ν → q_wp (bn (gP 11 7 (some b)) fun v7 => bn (pRc 13 v7) fun b8 => bn (F_Jx4a65c_add_9ea2d b8 (some r)) fun v9 => F_X11_night_L96 FU b (some r) (0 : Int32) (0 : Int32)) ν Q) :
    q_wp (F_X11_night_L29 FU b (some r) 0) ν0 Q := by
  obtain ⟨hM, hL, hO, hT, hD, hR, hN, hU, hP⟩ := id hA
  have hID := hI.2.2.2.2.1
  have hIT := hI.2.2.2.1
  have h120 := hI.2.2.1.1
  refine wp_loop (σ := Unit) (fun f k _ => F_X11_night_L29 f b (some r) (q_i3 k)) 6 (fun k _ ν => NI μ b s r (q_endP (sT s) (sD s)) k ν) _ ?_ ?_ FU 0 () ν0 (by omega) (by show 6 - 0 < 100000; omega) h0
  · rintro f _ ν h
    unfold F_X11_night_L29
    rw [wp_ite, if_pos (by decide)]
    exact hQ ν h
  · rintro f k _ ν hk ⟨C1, R1, D1, O1, G1, H1, A1, B1⟩ ih
    show q_wp (F_X11_night_L29 (f + 1) b (some r) (q_i3 k)) ν Q
    have K1 := C1.k0 hK rfl
    have W1 := C1.1
    have hPk := endP_bd hIT hID hk
    obtain ⟨pz0, pz1⟩ := pz_ne hPk
    unfold F_X11_night_L29 F_X11_night_L76
    rw [wp_ite, if_neg (fun z => by have := (i3_le (a := 6) (by omega) (by omega)).mp z; omega), wp_bn, xgP11_2 K1, wp_bn, xmo K1 hk, wp_bn, xpR2 K1 hk, wp_bn]
    have ol := offN_len (os := (sO s).1) k
    refine q_wp_mono (c_dropAll' K1 W1 O1 hk (Nat.le_trans ol h120) R1) ?_
    rintro _ ρ ⟨O2, C2, R2⟩
    have K2 := C2.k0 K1 rfl
    have W2 := C2.1
    have C12 := (C1.tr C2).wk (T := q_NS) (N := SDS) (y := 4 + 3 * k + 2) (t := 9 + 7 * vN (sM s) + 3 * k) rfl (by
      have := SDS_sub hk
      unfold subL at this ⊢
      rw [List.all_append, this]; rfl) (by omega) (by omega)
    have OD2 : OldD μ ρ := D1.tr (OldD.of C2.2.1 rfl) C1.2.1
    have CDr : CDx ρ b (sD s) := hD.x.old C12.2.1 rfl OD2 (C12.2.2.1 37 (by decide) (by decide))
    have CTr : CT ρ b (sT s) := hT.fr C12.2.1 (C12.2.2.1 34 (by decide) (by decide)) rfl
    have t712 : mI ρ 712 b = q_i3 (dT (sD s)) := by rw [C12.2.1.i 712 rfl]; exact hD.1
    have G2 : DO ρ r (vN (sM s)) := G1.fr C2.2.1 rfl
    obtain ⟨d1, d2, d3, d4, d5, d6, d7, d8, d9, d10⟩ := id G2
    have H2 : ∀ i, i < k → Ch ρ (aP ρ 86 (r + 1) i) (chP (q_endP (sT s) (sD s)) (dT (sD s)) i) := fun i hi => by
      rw [C2.2.1.ap 86 rfl]
      exact Ch.fr (fun a ha => C2.2.1.k rfl ha) (fun a _ => ⟨by rw [C2.2.1.i 512 rfl], by rw [C2.2.1.i 513 rfl], by rw [C2.2.1.p 514 rfl]⟩) _ _ (H1 i hi)
    rw [wp_bn, xpR11 K2, wp_bn, wp_eq (c_endPrice K2 W2 CTr CDr t712 hIT hID hk), wp_bn, wp_gP, show mP ρ (64 * 0 + 0) r = some (r + 1) from d2]
    refine ⟨d1, ?_⟩
    rw [wp_ite]
    by_cases e : q_endP (sT s) (sD s) k = -1
    · rw [if_neg (fun z => z (pz0.mpr e)), wp_bn, wp_stP, d8, inA_i3 (by omega), i3_toNat (by omega)]
      refine ⟨d5, ⟨hk, Or.inl rfl⟩, ?_⟩
      rw [i3_1]
      have hf := q_Fr.tP ρ 86 (r + 1) k none
      obtain ⟨w3, l3⟩ := W2.tP (k := 86) (a := r + 1) (i := k) (v := none) (by rw [d5]; omega) (by omega)
      have C3 : Cs [2086] [] 0 0 b ρ (tP ρ 86 (r + 1) k none) := ⟨w3, hf, fun o _ _ => by rw [l3], Nat.le_refl _, Nat.le_refl _⟩
      have OD3 : OldD μ (tP ρ 86 (r + 1) k none) := ⟨OD2.1, OD2.2.1, fun a ha => by
        funext i; rw [aP_tP', if_neg (fun z => (hrx a (by omega)).2.1 z.2.1)]; exact congrFun (OD2.2.2.1 a ha) i, OD2.2.2.2.1, OD2.2.2.2.2⟩
      refine ih () _ ⟨(C12.tr C3).wk rfl rfl (by omega) (by omega), fun a ha => by rw [l3]; exact R2 a ha, OD3, O2.fr hf (fun i hi s => by rw [l3]) rfl, G2.fr hf rfl, fun i hi => ?_, fun i => ?_, fun i => ?_⟩
      · rw [aP_tP']
        by_cases ei : i = k
        · rw [if_pos ⟨rfl, rfl, ei⟩, ei]; unfold chP; rw [if_pos e]; rfl
        · rw [if_neg (fun z => ei z.2.2)]
          exact Ch.fr (μ := ρ) (ν := tP ρ 86 (r + 1) k none) (fun a ha => rfl) (fun a _ => ⟨rfl, rfl, rfl⟩) _ _ (H2 i (by omega))
      · show aL ρ 97 (r + 3) i = 0
        rw [C2.2.1.alg 97 rfl]; exact A1 i
      · show aI ρ 88 (r + 2) i = 0
        rw [C2.2.1.ai 88 rfl]; exact B1 i
    · rw [if_pos (fun z => e (pz0.mp z)), pz1 e, wp_bn, wp_newO W2.z, wp_bn]
      obtain ⟨q, hq⟩ : ∃ q, q = mX ρ := ⟨_, rfl⟩
      rw [← hq]
      have hz := W2.z
      have n1 := (Nw.rf W2).al 9 0 3 (by omega)
      have K3 : K0 (q_al (8 + 1) 0 3 ρ) b := K2.fr (q_Fr.nw hz 9 0 3) rfl
      have kq : mK (q_al (8 + 1) 0 3 ρ) q = 9 := by rw [mK_al, if_pos hq]
      rw [xgI11 K3, show mI (q_al (8 + 1) 0 3 ρ) (64 * 11 + 8) b = q_i3 (dT (sD s)) from t712, wp_bn, wp_pRc]
      refine ⟨kq, ?_⟩
      unfold F_X8_init
      simp only [wp_bn, wp_wI, wp_wP, wp_rt, wp_stP, Nat.reduceMul, Nat.reduceAdd]
      obtain ⟨p, ep⟩ : ∃ p, p = q_endP (sT s) (sD s) k := ⟨_, rfl⟩
      rw [← ep]
      have nx : ∀ a, mK ρ a ≠ 0 → a ≠ q := fun a ha z => by have := hz.lt ha; omega
      have kd : mK (q_al (8 + 1) 0 3 ρ) (r + 1) = 86 := by rw [mK_al, if_neg (by have := nx (r + 1) (by omega); omega)]; exact d5
      have nd : mN (q_al (8 + 1) 0 3 ρ) (r + 1) = 6 := by rw [mN_al, if_neg (by have := nx (r + 1) (by omega); omega)]; exact d8
      refine ⟨kq, kq, kq, kd, ⟨inA_of (by omega) (by show k < mN (q_al (8 + 1) 0 3 ρ) (r + 1); rw [nd]; exact hk), Or.inr kq⟩, ?_⟩
      rw [i3_toNat (by omega), i3_1]
      have n2 := ((n1.sI (f := 512) (a := q) (v := p) (by show mK (q_al (8 + 1) 0 3 ρ) q ≠ 0; omega) (by omega)).sI (f := 513) (a := q) (v := q_i3 (dT (sD s))) (by show mK (q_al (8 + 1) 0 3 ρ) q ≠ 0; omega) (by omega)).sP (f := 514) (a := q) (v := none) (by show mK (q_al (8 + 1) 0 3 ρ) q ≠ 0; omega) (by omega)
      have n3 := n2.tP (k := 86) (a := r + 1) (i := k) (v := some q) (by show mK (q_al (8 + 1) 0 3 ρ) (r + 1) ≠ 0; omega) (by omega)
      obtain ⟨σ, eσ⟩ : ∃ σ, σ = tP (sP (sI (sI (q_al 9 0 3 ρ) 512 q p) 513 q (q_i3 (dT (sD s)))) 514 q none) 86 (r + 1) k (some q) := ⟨_, rfl⟩
      have f3 : q_Fr [512, 513, 514, 2086] ρ σ := by rw [eσ]; exact (((((q_Fr.nw hz 9 0 3).tr (q_Fr.sI _ 512 q _)).tr (q_Fr.sI _ 513 q _)).tr (q_Fr.sP _ 514 q _)).tr (q_Fr.tP _ 86 _ k _)).wk rfl
      rw [← eσ] at n3
      show q_wp (F_X11_night_L29 f b (some r) (q_i3 (k + 1))) (tP (sP (sI (sI (q_al 9 0 3 ρ) 512 q p) 513 q (q_i3 (dT (sD s)))) 514 q none) 86 (r + 1) k (some q)) Q
      rw [← eσ]
      have C3 : Cs [512, 513, 514, 2086] [] 1 3 b ρ σ := n3.cs f3 (by rw [eσ]; exact Nat.le_refl _) (by rw [eσ]; exact Nat.le_refl _)
      have kμ : ∀ a, mK μ a ≠ 0 → a ≠ q := fun a ha => nx a (by rw [C12.2.1.k rfl ha]; exact ha)
      have ch9 : ∀ a, a ≠ q → mI σ 512 a = mI ρ 512 a ∧ mI σ 513 a = mI ρ 513 a ∧ mP σ 514 a = mP ρ 514 a := fun a ha => by
        rw [eσ]
        refine ⟨?_, ?_, ?_⟩
        · simp [mI_sI', mI_tP, mI_sP, ha, mI_al]
        · simp [mI_sI', mI_tP, mI_sP, ha, mI_al]
        · simp [mP_sI, mP_tP, mP_sP', ha, mP_al]
      have ap : ∀ a i, aP σ 86 a i = if a = r + 1 ∧ i = k then some q else aP ρ 86 a i := fun a i => by
        rw [eσ, aP_tP']
        by_cases z : a = r + 1 ∧ i = k
        · rw [if_pos z, if_pos ⟨rfl, z⟩]
        · rw [if_neg z, if_neg (fun w => z w.2)]; rfl
      have OD3 : OldD μ σ := by
        refine ⟨fun a ha => ?_, fun a ha => ?_, fun a ha => ?_, fun a ha => ?_, fun a ha => ?_⟩
        · obtain ⟨z1, z2, z3⟩ := OD2.1 a ha
          exact ⟨by rw [f3.p 0 rfl]; exact z1, by rw [f3.p 1 rfl]; exact z2, by rw [f3.p 2 rfl]; exact z3⟩
        · obtain ⟨z1, z2, z3⟩ := OD2.2.1 a ha
          obtain ⟨y1, y2, y3⟩ := ch9 a (kμ a (by omega))
          exact ⟨y1.trans z1, y2.trans z2, y3.trans z3⟩
        · funext i; rw [ap, if_neg (fun z => (hrx a (by omega)).2.1 z.1)]; exact congrFun (OD2.2.2.1 a ha) i
        · rw [f3.ai 88 rfl]; exact OD2.2.2.2.1 a ha
        · rw [f3.alg 97 rfl]; exact OD2.2.2.2.2 a ha
      have l3 : q_lst σ = q_lst ρ := n3.2.1
      refine ih () _ ⟨(C12.tr C3).wk rfl rfl (by omega) (by omega), fun a ha => by rw [l3]; exact R2 a (n3.2.2 a ha), OD3, O2.fr f3 (fun i hi s => by rw [l3]) rfl, G2.fr f3 rfl, fun i hi => ?_, fun i => ?_, fun i => ?_⟩
      · rw [ap]
        by_cases ei : i = k
        · rw [if_pos ⟨rfl, ei⟩, ei]; unfold chP; rw [if_neg e]
          refine ⟨q, rfl, ?_, ?_, ?_, ?_⟩
          · rw [eσ]; exact kq
          · rw [eσ, ← ep]; simp [mI_sI', mI_tP, mI_sP]
          · rw [eσ]; simp [mI_sI', mI_tP, mI_sP]
          · show mP σ 514 q = none
            rw [eσ]; simp [mP_sI, mP_tP, mP_sP']
        · rw [if_neg (fun z => ei z.2)]
          exact Ch.fr (fun a ha => f3.k rfl ha) (fun a ha => ch9 a (nx a (by omega))) _ _ (H2 i (by omega))
      · rw [f3.alg 97 rfl, C2.2.1.alg 97 rfl]; exact A1 i
      · rw [f3.ai 88 rfl, C2.2.1.ai 88 rfl]; exact B1 i

def nP (s : q_St) : Nat → Int32 := q_endP (sT s) (sD s)
def nR (s : q_St) : Int32 × q_St := nmL (sU s) (q_i3 (dT (sD s))) (fun j => pz (nP s j)) (vN (sM s)) (wO s ([], (sO s).2))
def fNight (s : q_St) : Int32 × q_St := if dT (sD s) < 150 then ((nR s).1, wD (nR s).2 (q_nD (sD s) (vN (sM s)) (nP s) (fun i => vPd (sM (nR s).2) i - vCs (sM (nR s).2) i) (vPs (sM (nR s).2)))) else (-1, s)
theorem c_dayNew {μ : Mem} {b n r : Nat} {s : q_St} {Q : Int32 → Mem → Prop} {K : Option Nat → M Int32} (hK : K0 μ b) (hW : WF μ) (hA : q_AC μ b s) (hn : n ≤ 12) (hnn : n = vN (sM s)) (hr : r = mX μ) (P : Nat → Int32)
    (hQ : ∀ ν, NI μ b s r P 0 ν → q_wp (K (some r)) ν Q) : q_wp (bn (newO 0 3) fun r2 => bn (gP 11 3 (some b)) fun v3 => bn (pRc 13 v3) fun b4 => bn (F_Jx4a65c_size_8abf5 b4) fun v5 => bn (pRc 0 r2) fun b6 => bn (F_X0_init b6 v5) fun _ => K r2) μ Q := by
  obtain ⟨hM, hL, hO, hT, hD, hR, hN, hU, hP⟩ := id hA
  have hz := hW.z
  have n1 := (Nw.rf hW).al 1 0 3 (by omega)
  have K1 : K0 (q_al (0 + 1) 0 3 μ) b := hK.fr (q_Fr.nw hz 1 0 3) rfl
  have kr1 : mK (q_al (0 + 1) 0 3 μ) r = 1 := by rw [mK_al, if_pos hr]
  rw [wp_bn, wp_newO hz, ← hr, wp_bn, xgP11_3 K1, wp_bn, xpL_33 K1, wp_bn, wp_eq (ls_size n1.1 (K1.k 33 14 (by decide))), show q_lst (q_al (0 + 1) 0 3 μ) = q_lst μ from n1.2.1, hM.1, ← hnn, wp_bn, wp_pRc]
  refine ⟨kr1, ?_⟩
  unfold F_X0_init
  have x1 : mX (q_al (0 + 1) 0 3 μ) = r + 1 := by rw [mX_al, hr]
  rw [wp_bn, wp_bn, show (6 : Int32) = q_i3 6 from rfl, wp_newA n1.1.z (by omega), x1, wp_bn, wp_wP]
  have n2 := n1.al 86 6 6 (by omega)
  have kr2 : mK (q_al 86 6 6 (q_al (0 + 1) 0 3 μ)) r = 1 := by rw [mK_al, if_neg (by omega), kr1]
  refine ⟨kr2, ?_⟩
  have n3 := n2.sP (f := 0) (a := r) (v := some (r + 1)) (by show mK (q_al 86 6 6 (q_al (0 + 1) 0 3 μ)) r ≠ 0; rw [kr2]; omega) (by omega)
  obtain ⟨μ3, e3⟩ : ∃ μ3, μ3 = sP (q_al 86 6 6 (q_al (0 + 1) 0 3 μ)) (64 * 0 + 0) r (some (r + 1)) := ⟨_, rfl⟩
  have n3' : Nw μ μ3 := by rw [e3]; exact n3
  rw [← e3]
  have x3 : mX μ3 = r + 2 := by rw [e3, mX_sP, mX_al, x1]
  have f3 : q_Fr [0] μ μ3 := by rw [e3]; exact (((q_Fr.nw hz 1 0 3).tr (q_Fr.nw n1.1.z 86 6 6)).tr (q_Fr.sP _ 0 r _)).wk rfl
  rw [wp_bn, i3_mul, wp_newA n3'.1.z (by omega), x3, wp_bn, wp_wP]
  have n4 := n3'.al 88 (n * 6) (n * 6) (by omega)
  have kr3 : mK μ3 r = 1 := by rw [e3]; exact kr2
  have kr4 : mK (q_al 88 (n * 6) (n * 6) μ3) r = 1 := by rw [mK_al, if_neg (by omega), kr3]
  refine ⟨kr4, ?_⟩
  have n5 := n4.sP (f := 1) (a := r) (v := some (r + 2)) (by show mK (q_al 88 (n * 6) (n * 6) μ3) r ≠ 0; rw [kr4]; omega) (by omega)
  obtain ⟨μ5, e5⟩ : ∃ μ5, μ5 = sP (q_al 88 (n * 6) (n * 6) μ3) (64 * 0 + 1) r (some (r + 2)) := ⟨_, rfl⟩
  have n5' : Nw μ μ5 := by rw [e5]; exact n5
  rw [← e5]
  have x5 : mX μ5 = r + 3 := by rw [e5, mX_sP, mX_al, x3]
  have f5 : q_Fr [0, 1] μ μ5 := by rw [e5]; exact ((f3.tr (q_Fr.nw n3'.1.z 88 (n * 6) (n * 6))).tr (q_Fr.sP _ 1 r _)).wk rfl
  rw [wp_bn, wp_newA n5'.1.z (by omega), x5, wp_bn, wp_wP, wp_rt]
  have n6 := n5'.al 97 n n (by omega)
  have kr5 : mK μ5 r = 1 := by rw [e5]; exact kr4
  have kr6 : mK (q_al 97 n n μ5) r = 1 := by rw [mK_al, if_neg (by omega), kr5]
  refine ⟨kr6, ?_⟩
  have n7 := n6.sP (f := 2) (a := r) (v := some (r + 3)) (by show mK (q_al 97 n n μ5) r ≠ 0; rw [kr6]; omega) (by omega)
  obtain ⟨μ7, e7⟩ : ∃ μ7, μ7 = sP (q_al 97 n n μ5) (64 * 0 + 2) r (some (r + 3)) := ⟨_, rfl⟩
  have n7' : Nw μ μ7 := by rw [e7]; exact n7
  rw [← e7]
  have f7 : q_Fr [0, 1, 2] μ μ7 := by rw [e7]; exact ((f5.tr (q_Fr.nw n5'.1.z 97 n n)).tr (q_Fr.sP _ 2 r _)).wk rfl
  have kx : ∀ a, mK μ a ≠ 0 → a < r := fun a ha => by have := hz.lt ha; omega
  have s3 : mS μ3 = mS μ + 9 := by rw [e3, mS_sP, mS_al, mS_al]
  have s5 : mS μ5 = mS μ + 9 + n * 6 := by rw [e5, mS_sP, mS_al, s3]
  have s7 : mS μ7 = mS μ + 9 + n * 6 + n := by rw [e7, mS_sP, mS_al, s5]
  have x7 : mX μ7 = mX μ + 4 := by rw [e7, mX_sP, mX_al, x5, hr]
  have l7 : q_lst μ7 = q_lst μ := n7'.2.1
  have p3 : ∀ t a, mP μ3 t a = if t = 0 ∧ a = r then some (r + 1) else mP μ t a := fun t a => by rw [e3, mP_sP', mP_al, mP_al]
  have p5 : ∀ t a, mP μ5 t a = if t = 1 ∧ a = r then some (r + 2) else mP μ3 t a := fun t a => by rw [e5, mP_sP', mP_al]
  have p7 : ∀ t a, mP μ7 t a = if t = 2 ∧ a = r then some (r + 3) else mP μ5 t a := fun t a => by rw [e7, mP_sP', mP_al]
  have k3 : ∀ a, mK μ3 a = if a = r + 1 then 86 else mK (q_al (0 + 1) 0 3 μ) a := fun a => by rw [e3, mK_sP, mK_al, x1]
  have k5 : ∀ a, mK μ5 a = if a = r + 2 then 88 else mK μ3 a := fun a => by rw [e5, mK_sP, mK_al, x3]
  have k7 : ∀ a, mK μ7 a = if a = r + 3 then 97 else mK μ5 a := fun a => by rw [e7, mK_sP, mK_al, x5]
  have N3 : ∀ a, mN μ3 a = if a = r + 1 then 6 else mN (q_al (0 + 1) 0 3 μ) a := fun a => by rw [e3, mN_sP, mN_al, x1]
  have N5 : ∀ a, mN μ5 a = if a = r + 2 then n * 6 else mN μ3 a := fun a => by rw [e5, mN_sP, mN_al, x3]
  have N7 : ∀ a, mN μ7 a = if a = r + 3 then n else mN μ5 a := fun a => by rw [e7, mN_sP, mN_al, x5]
  clear e7 e5 e3 n3 n5 n7 n2 n4 n6
  have z := hz
  have zr : ∀ k, k < 4 → (∀ k' i, aI μ k' (r + k) i = 0) ∧ (∀ k' i, aL μ k' (r + k) i = 0) := fun k hk => by
    obtain ⟨_, _, _, a4, a5, _⟩ := z (r + k) (by omega)
    exact ⟨a4, a5⟩
  refine hQ μ7 ⟨(n7'.cs f7 (x := 4) (s := 9 + 7 * n) (by omega) (by omega)).wk rfl rfl (by omega) (by rw [← hnn]; omega), fun a ha => n7'.nin hW (by omega) a ha, ?_, hO.fr f7 (fun i hi s => by rw [l7]) rfl, ?_, fun i hi => by omega, fun i => ?_, fun i => ?_⟩
  · refine ⟨fun a ha => ?_, fun a ha => ⟨by rw [f7.i 512 rfl], by rw [f7.i 513 rfl], by rw [f7.p 514 rfl]⟩, fun a ha => by rw [f7.ap 86 rfl], fun a ha => by rw [f7.ai 88 rfl], fun a ha => by rw [f7.alg 97 rfl]⟩
    have hne : a ≠ r := by have := kx a (by omega); omega
    have q : ∀ t, mP μ7 t a = mP μ t a := fun t => by rw [p7, if_neg (fun z => hne z.2), p5, if_neg (fun z => hne z.2), p3, if_neg (fun z => hne z.2)]
    exact ⟨q 0, q 1, q 2⟩
  · rw [← hnn]
    refine ⟨?_, ?_, ?_, ?_, ?_, ?_, ?_, ?_, ?_, ?_⟩
    · rw [k7, if_neg (by omega)]; exact kr5
    · rw [p7, if_neg (fun z => absurd z.1 (by omega)), p5, if_neg (fun z => absurd z.1 (by omega)), p3, if_pos ⟨rfl, rfl⟩]
    · rw [p7, if_neg (fun z => absurd z.1 (by omega)), p5, if_pos ⟨rfl, rfl⟩]
    · rw [p7, if_pos ⟨rfl, rfl⟩]
    · rw [k7, if_neg (by omega), k5, if_neg (by omega), k3, if_pos rfl]
    · rw [k7, if_neg (by omega), k5, if_pos rfl]
    · rw [k7, if_pos rfl]
    · rw [N7, if_neg (by omega), N5, if_neg (by omega), N3, if_pos rfl]
    · rw [N7, if_neg (by omega), N5, if_pos rfl]; omega
    · rw [N7, if_pos rfl]
  · rw [f7.alg 97 rfl]; exact (zr 3 (by omega)).2 97 i
  · rw [f7.ai 88 rfl]; exact (zr 2 (by omega)).1 88 i
