theorem r_ploop {b L k d : Nat} {tp : Nat → Int32} {x : q_Lx} {rE rS' rP rF : Nat → M Int32} {F : Nat → Nat → q_Res} (hx : x = lexOf tp L) (hG : GoodF x F) (hF : RSpec b tp L k x (rF (b + 38)) F d) (hpd : PdF b tp L k (rF (b + 38))) : ∀ (g f : Nat) (μ : Mem) (r : q_Pr) (ks : List q_Tok), EnvR μ b tp L → rS μ b x L k r.1 r.2.1 (12 - d) (ks ++ r.2.2.2.1) → 60 - r.2.1 < g → 60 - r.2.1 < f → q_wp (F_X12_readPart_L9 rE rS' rP rF (f + 1) (b + 38)) μ (rPost b x L k (12 - d) (pLp x 42 47 F g r) ks μ) := by
  intro g
  induction g with
  | zero => intro f μ r ks _ _ h; omega
  | succ g ih =>
    intro f μ r ks hE h hg hf
    have t60 : r.2.1 ≤ 60 := h.2.2.2.2.2.2.2.1
    have pn : ∀ f', Pnd b tp L k (F_X12_readPart_L9 rE rS' rP rF (f' + 1) (b + 38)) := fun f' => by
      unfold F_X12_readPart_L9
      refine Pnd_sign ?_
      rw [if_neg (fun z => z rfl)]
      refine Pnd_sign ?_
      rw [if_pos rfl]
      exact Pnd_rz1
    have L27 : (lxk x r.1 = 42 ∨ lxk x r.1 = 47) → q_wp (F_X12_readPart_L27 rE rS' rP rF (F_X12_readPart_L9 rE rS' rP rF f) (b + 38)) μ (rPost b x L k (12 - d) (pLp x 42 47 F (g + 1) r) ks μ) := by
      intro e
      show q_wp _ μ (rPost b x L k (12 - d) (if lxk x r.1 = 42 ∨ lxk x r.1 = 47 then thn (tkE x r.2.1 r.1) fun q1 => thn (F q1 (r.2.1 + 1)) fun u => pLp x 42 47 F g (u.1, u.2.1, r.2.2.1 ++ (u.2.2.1 ++ [- lxk x r.1]), r.2.2.2.1 ++ tkq x r.1 :: u.2.2.2.1, fun w => cmb (lxk x r.1) (r.2.2.2.2 w) (u.2.2.2.2 w)) else .ok r) ks μ)
      have n17 : lxk x r.1 ≠ 17 := by rcases e with z | z <;> rw [z] <;> decide
      obtain ⟨f, rfl⟩ : ∃ f', f = f' + 1 := ⟨f - 1, by omega⟩
      unfold F_X12_readPart_L27
      rw [if_pos e, wp_bn, xpR12 hE.1]
      refine (rT hx hE n17 h (Pnd_f2 (F := fun b9 => rF b9) hpd) ?_).1
      intro q1 ν hq1 E1 h1
      obtain ⟨tl, _, _⟩ := tkE_ok hq1
      rw [wp_bn, xpR12 E1.1]
      refine (q_rB (ks0 := ks) E1 (hF ν q1 (r.2.1 + 1) _ E1 h1) (pn f) ?_).2
      intro u ρ hu E2 h2
      obtain ⟨a1, a2, a3, a4, a5, a6⟩ := hG _ _ _ hu
      refine ih f ρ (u.1, u.2.1, r.2.2.1 ++ (u.2.2.1 ++ [- lxk x r.1]), r.2.2.2.1 ++ tkq x r.1 :: u.2.2.2.1, fun w => cmb (lxk x r.1) (r.2.2.2.2 w) (u.2.2.2.2 w)) ks E2 ?_ (by show 60 - u.2.1 < g; omega) (by show 60 - u.2.1 < f; omega)
      show rS ρ b x L k u.1 u.2.1 (12 - d) (ks ++ (r.2.2.2.1 ++ tkq x r.1 :: u.2.2.2.1))
      have : ks ++ (r.2.2.2.1 ++ tkq x r.1 :: u.2.2.2.1) = ks ++ r.2.2.2.1 ++ [tkq x r.1] ++ u.2.2.2.1 := by simp
      rw [this]; exact h2
    show q_wp (bn (pRc 12 (some (b + 38))) fun b3 => bn (F_X12_isSign b3 (42 : Int32)) fun v4 => if ¬ v4 = 0 then F_X12_readPart_L27 rE rS' rP rF (F_X12_readPart_L9 rE rS' rP rF f) (b + 38) else bn (pRc 12 (some (b + 38))) fun b5 => bn (F_X12_isSign b5 (47 : Int32)) fun v6 => if v6 = 0 then rz (1 : Int32) else F_X12_readPart_L27 rE rS' rP rF (F_X12_readPart_L9 rE rS' rP rF f) (b + 38)) μ _
    rw [wp_bn, xpR12 hE.1, wp_bn, wp_eq (r_isSign hE.1 h.1 (by decide)), wp_ite]
    by_cases e1 : lxk x r.1 = 42
    · rw [if_pos e1, if_pos (by decide)]; exact L27 (Or.inl e1)
    rw [if_neg e1, if_neg (fun z => z rfl), wp_bn, xpR12 hE.1, wp_bn, wp_eq (r_isSign hE.1 h.1 (by decide)), wp_ite]
    by_cases e2 : lxk x r.1 = 47
    · rw [if_pos e2, if_neg (by decide)]; exact L27 (Or.inr e2)
    · rw [if_neg e2, if_pos rfl, wp_rz1]
      show rPost b x L k (12 - d) (if lxk x r.1 = 42 ∨ lxk x r.1 = 47 then _ else .ok r) ks μ 1 μ
      rw [if_neg (fun z => z.elim e1 e2)]
      exact rP_ok h
theorem pn_part (b L k : Nat) (tp : Nat → Int32) {rE rS' rP rF : Nat → M Int32} (f : Nat) : Pnd b tp L k (F_X12_readPart_L9 rE rS' rP rF (f + 1) (b + 38)) := by
  unfold F_X12_readPart_L9
  refine Pnd_sign ?_
  rw [if_neg (fun z => z rfl)]
  refine Pnd_sign ?_
  rw [if_pos rfl]
  exact Pnd_rz1
theorem r_sloop {b L k d : Nat} {tp : Nat → Int32} {x : q_Lx} {rE rS' rP rF : Nat → M Int32} {F : Nat → Nat → q_Res} (hx : x = lexOf tp L) (hG : GoodF x F) (hF : RSpec b tp L k x (rP (b + 38)) F d) (hpd : PdF b tp L k (rP (b + 38))) : ∀ (g f : Nat) (μ : Mem) (r : q_Pr) (ks : List q_Tok), EnvR μ b tp L → rS μ b x L k r.1 r.2.1 (12 - d) (ks ++ r.2.2.2.1) → 60 - r.2.1 < g → 60 - r.2.1 < f → q_wp (F_X12_readSum_L9 rE rS' rP rF (f + 1) (b + 38)) μ (rPost b x L k (12 - d) (pLp x 43 45 F g r) ks μ) := by
  intro g
  induction g with
  | zero => intro f μ r ks _ _ h; omega
  | succ g ih =>
    intro f μ r ks hE h hg hf
    have t60 : r.2.1 ≤ 60 := h.2.2.2.2.2.2.2.1
    have pn : ∀ f', Pnd b tp L k (F_X12_readSum_L9 rE rS' rP rF (f' + 1) (b + 38)) := fun f' => by
      unfold F_X12_readSum_L9
      refine Pnd_sign ?_
      rw [if_neg (fun z => z rfl)]
      refine Pnd_sign ?_
      rw [if_pos rfl]
      exact Pnd_rz1
    have L27 : (lxk x r.1 = 43 ∨ lxk x r.1 = 45) → q_wp (F_X12_readSum_L27 rE rS' rP rF (F_X12_readSum_L9 rE rS' rP rF f) (b + 38)) μ (rPost b x L k (12 - d) (pLp x 43 45 F (g + 1) r) ks μ) := by
      intro e
      show q_wp _ μ (rPost b x L k (12 - d) (if lxk x r.1 = 43 ∨ lxk x r.1 = 45 then thn (tkE x r.2.1 r.1) fun q1 => thn (F q1 (r.2.1 + 1)) fun u => pLp x 43 45 F g (u.1, u.2.1, r.2.2.1 ++ (u.2.2.1 ++ [- lxk x r.1]), r.2.2.2.1 ++ tkq x r.1 :: u.2.2.2.1, fun w => cmb (lxk x r.1) (r.2.2.2.2 w) (u.2.2.2.2 w)) else .ok r) ks μ)
      have n17 : lxk x r.1 ≠ 17 := by rcases e with z | z <;> rw [z] <;> decide
      obtain ⟨f, rfl⟩ : ∃ f', f = f' + 1 := ⟨f - 1, by omega⟩
      unfold F_X12_readSum_L27
      rw [if_pos e, wp_bn, xpR12 hE.1]
      refine (rT hx hE n17 h (Pnd_f2 (F := fun b9 => rP b9) hpd) ?_).1
      intro q1 ν hq1 E1 h1
      obtain ⟨tl, _, _⟩ := tkE_ok hq1
      rw [wp_bn, xpR12 E1.1]
      refine (q_rB (ks0 := ks) E1 (hF ν q1 (r.2.1 + 1) _ E1 h1) (pn f) ?_).2
      intro u ρ hu E2 h2
      obtain ⟨a1, a2, a3, a4, a5, a6⟩ := hG _ _ _ hu
      refine ih f ρ (u.1, u.2.1, r.2.2.1 ++ (u.2.2.1 ++ [- lxk x r.1]), r.2.2.2.1 ++ tkq x r.1 :: u.2.2.2.1, fun w => cmb (lxk x r.1) (r.2.2.2.2 w) (u.2.2.2.2 w)) ks E2 ?_ (by show 60 - u.2.1 < g; omega) (by show 60 - u.2.1 < f; omega)
      show rS ρ b x L k u.1 u.2.1 (12 - d) (ks ++ (r.2.2.2.1 ++ tkq x r.1 :: u.2.2.2.1))
      have : ks ++ (r.2.2.2.1 ++ tkq x r.1 :: u.2.2.2.1) = ks ++ r.2.2.2.1 ++ [tkq x r.1] ++ u.2.2.2.1 := by simp
      rw [this]; exact h2
    show q_wp (bn (pRc 12 (some (b + 38))) fun b3 => bn (F_X12_isSign b3 (43 : Int32)) fun v4 => if ¬ v4 = 0 then F_X12_readSum_L27 rE rS' rP rF (F_X12_readSum_L9 rE rS' rP rF f) (b + 38) else bn (pRc 12 (some (b + 38))) fun b5 => bn (F_X12_isSign b5 (45 : Int32)) fun v6 => if v6 = 0 then rz (1 : Int32) else F_X12_readSum_L27 rE rS' rP rF (F_X12_readSum_L9 rE rS' rP rF f) (b + 38)) μ _
    rw [wp_bn, xpR12 hE.1, wp_bn, wp_eq (r_isSign hE.1 h.1 (by decide)), wp_ite]
    by_cases e1 : lxk x r.1 = 43
    · rw [if_pos e1, if_pos (by decide)]; exact L27 (Or.inl e1)
    rw [if_neg e1, if_neg (fun z => z rfl), wp_bn, xpR12 hE.1, wp_bn, wp_eq (r_isSign hE.1 h.1 (by decide)), wp_ite]
    by_cases e2 : lxk x r.1 = 45
    · rw [if_pos e2, if_neg (by decide)]; exact L27 (Or.inr e2)
    · rw [if_neg e2, if_pos rfl, wp_rz1]
      show rPost b x L k (12 - d) (if lxk x r.1 = 43 ∨ lxk x r.1 = 45 then _ else .ok r) ks μ 1 μ
      rw [if_neg (fun z => z.elim e1 e2)]
      exact rP_ok h
theorem pn_sum (b L k : Nat) (tp : Nat → Int32) {rE rS' rP rF : Nat → M Int32} (f : Nat) : Pnd b tp L k (F_X12_readSum_L9 rE rS' rP rF (f + 1) (b + 38)) := by
  unfold F_X12_readSum_L9
  refine Pnd_sign ?_
  rw [if_neg (fun z => z rfl)]
  refine Pnd_sign ?_
  rw [if_pos rfl]
  exact Pnd_rz1
theorem r_prt {b L k n d : Nat} {tp : Nat → Int32} {x : q_Lx} (hx : x = lexOf tp L) (hxo : lOK x) (hn : 1 ≤ n) (hF : RSpec b tp L k x ((R_X12_readExpr n).2.2.2 (b + 38)) (pFac x (opL x d)) d) : RSpec b tp L k x ((R_X12_readExpr (n + 1)).2.2.1 (b + 38)) (pPrt x (opL x d)) d := by
  intro μ q t ks hE h
  obtain ⟨m, rfl⟩ : ∃ m, n = m + 1 := ⟨n - 1, by omega⟩
  show q_wp (F_X12_readPart_B _ _ _ (R_X12_readExpr (m + 1)).2.2.2 (b + 38)) μ _
  unfold F_X12_readPart_B pPrt
  rw [wp_bn, xpR12 hE.1]
  refine (q_rB (ks0 := ks) hE (hF μ q t ks hE h) (pn_part b L k tp 99999) ?_).2
  intro r ν hr E1 h1
  obtain ⟨a1, a2, a3, a4, a5, a6⟩ := fac_good hxo (op_good hxo d) _ _ _ hr
  exact r_ploop hx (fac_good hxo (op_good hxo d)) hF (pdF b L k tp m) 61 99999 ν r ks E1 h1 (by omega) (by omega)
theorem r_sum {b L k n d : Nat} {tp : Nat → Int32} {x : q_Lx} (hx : x = lexOf tp L) (hxo : lOK x) (hn : 2 ≤ n) (hF : RSpec b tp L k x ((R_X12_readExpr n).2.2.1 (b + 38)) (pPrt x (opL x d)) d) : RSpec b tp L k x ((R_X12_readExpr (n + 1)).2.1 (b + 38)) (pSum x (opL x d)) d := by
  intro μ q t ks hE h
  obtain ⟨m, rfl⟩ : ∃ m, n = m + 2 := ⟨n - 2, by omega⟩
  show q_wp (F_X12_readSum_B _ _ (R_X12_readExpr (m + 2)).2.2.1 _ (b + 38)) μ _
  unfold F_X12_readSum_B pSum
  rw [wp_bn, xpR12 hE.1]
  refine (q_rB (ks0 := ks) hE (hF μ q t ks hE h) (pn_sum b L k tp 99999) ?_).2
  intro r ν hr E1 h1
  obtain ⟨a1, a2, a3, a4, a5, a6⟩ := prt_good hxo (op_good hxo d) _ _ _ hr
  exact r_sloop hx (prt_good hxo (op_good hxo d)) hF (pdP b L k tp m) 61 99999 ν r ks E1 h1 (by omega) (by omega)
theorem r_exp {b L k n d : Nat} {tp : Nat → Int32} {x : q_Lx} (hx : x = lexOf tp L) (hxo : lOK x) (hd : d ≤ 12) (hn : 4 ≤ n) (hF : RSpec b tp L k x ((R_X12_readExpr n).2.1 (b + 38)) (pSum x (opL x d)) d) (hE' : ∀ d', d = d' + 1 → RSpec b tp L k x ((R_X12_readExpr n).1 (b + 38)) (pLv x d').1 d') : RSpec b tp L k x ((R_X12_readExpr (n + 1)).1 (b + 38)) (pExp x (opL x d)) d := by
  intro μ q t ks hE h
  obtain ⟨m, rfl⟩ : ∃ m, n = m + 4 := ⟨n - 4, by omega⟩
  show q_wp (F_X12_readExpr_B (R_X12_readExpr (m + 4)).1 (R_X12_readExpr (m + 4)).2.1 (R_X12_readExpr (m + 4)).2.2.1 (R_X12_readExpr (m + 4)).2.2.2 (b + 38)) μ _
  have p52 : Pnd b tp L k (F_X12_readExpr_L52 (R_X12_readExpr (m + 4)).1 (R_X12_readExpr (m + 4)).2.1 (R_X12_readExpr (m + 4)).2.2.1 (R_X12_readExpr (m + 4)).2.2.2 (b + 38)) := by
    unfold F_X12_readExpr_L52
    refine Pnd_sign ?_
    rw [if_neg (fun z => z rfl)]
    exact Pnd_rz1
  have L52 : ∀ (r : q_Pr) (ν : Mem), EnvR ν b tp L → rS ν b x L k r.1 r.2.1 (12 - d) (ks ++ r.2.2.2.1) → q_wp (F_X12_readExpr_L52 (R_X12_readExpr (m + 4)).1 (R_X12_readExpr (m + 4)).2.1 (R_X12_readExpr (m + 4)).2.2.1 (R_X12_readExpr (m + 4)).2.2.2 (b + 38)) ν (rPost b x L k (12 - d) (if lxk x r.1 = 63 then pQ x (opL x d) r else .ok r) ks ν) := by
    intro r ν E1 h1
    unfold F_X12_readExpr_L52
    rw [wp_bn, xpR12 E1.1, wp_bn, wp_eq (r_isSign E1.1 h1.1 (by decide)), wp_ite]
    by_cases e63 : lxk x r.1 = 63
    rotate_left
    · rw [if_neg e63, if_neg (fun z => z rfl), wp_rz1, if_neg e63]; exact rP_ok h1
    rw [if_pos e63, if_pos (by decide), if_pos e63, wp_bn, xpR12 E1.1]
    refine rO (f := fun EF q1 => thn (EF.1 q1 (r.2.1 + 1)) fun u => if lxk x u.1 = 58 then thn (tkE x u.2.1 u.1) fun q3 => thn (EF.1 q3 (u.2.1 + 1)) fun y => .ok (y.1, y.2.1, r.2.2.1 ++ (u.2.2.1 ++ (y.2.2.1 ++ [-8])), r.2.2.2.1 ++ tkq x r.1 :: (u.2.2.2.1 ++ tkq x u.1 :: y.2.2.2.1), fun w => if r.2.2.2.2 w = 0 then y.2.2.2.2 w else u.2.2.2.2 w) else .error (2, lxf x u.1)) hx hd E1 (by rw [e63]; decide) h1 (Pnd_f1 (F := fun b17 => (R_X12_readExpr (m + 4)).1 b17) (pdE b L k tp m)) ?_
    intro d' q1 ρ ed hq1 E2 h2
    rw [wp_bn, xpR12 E2.1]
    refine (q_rB (ks0 := ks) E2 (hE' d' ed ρ q1 (r.2.1 + 1) _ E2 h2) (Pnd_f1 (F := fun b19 => F_X12_takeSign b19 58) PdF_takeSign) ?_).1
    intro u σ hu E3 h3
    rw [wp_bn, xpR12 E3.1]
    refine (rG hx (by decide) (by decide) E3 h3 (Pnd_f2 (F := fun b21 => (R_X12_readExpr (m + 4)).1 b21) (pdE b L k tp m)) ?_).1
    intro q3 τ hq3 E4 h4
    rw [wp_bn, xpR12 E4.1]
    refine (q_rB (ks0 := ks) E4 (hE' d' ed τ q3 (u.2.1 + 1) _ E4 h4) Pnd_close ?_).2
    intro y υ hy E5 h5
    have eo : 12 - d' = 12 - d + 1 := by omega
    rw [eo] at h5
    exact r_close (u := (y.1, y.2.1, r.2.2.1 ++ (u.2.2.1 ++ (y.2.2.1 ++ [-8])), r.2.2.2.1 ++ tkq x r.1 :: (u.2.2.2.1 ++ tkq x u.1 :: y.2.2.2.1), fun w => if r.2.2.2.2 w = 0 then y.2.2.2.2 w else u.2.2.2.2 w)) E5 h5 (by simp)
  have p36 : ∀ G : M Int32, Pnd b tp L k G → True := fun _ _ => trivial
  unfold F_X12_readExpr_B pExp pCnd
  rw [wp_bn, xpR12 hE.1]
  have as : ∀ (r0 : q_Res) (f g : q_Pr → q_Res), thn (thn r0 f) g = thn r0 fun r => thn (f r) g := by intro r0 f g; cases r0 <;> rfl
  rw [as]
  refine (q_rB (ks0 := ks) hE (hF μ q t ks hE h) ?_ ?_).2
  · refine Pnd_sign ?_
    rw [if_neg (fun z => z rfl)]
    refine Pnd_sign ?_
    rw [if_neg (fun z => z rfl)]
    refine Pnd_sign ?_
    rw [if_pos rfl]
    exact p52
  intro r ν hr E1 h1
  have L36 : (lxk x r.1 = 60 ∨ lxk x r.1 = 62 ∨ lxk x r.1 = 61) → q_wp (F_X12_readExpr_L36 (R_X12_readExpr (m + 4)).1 (R_X12_readExpr (m + 4)).2.1 (R_X12_readExpr (m + 4)).2.2.1 (R_X12_readExpr (m + 4)).2.2.2 (b + 38)) ν (rPost b x L k (12 - d) (thn (if lxk x r.1 = 60 ∨ lxk x r.1 = 62 ∨ lxk x r.1 = 61 then thn (tkE x r.2.1 r.1) fun q1 => thn (pSum x (opL x d) q1 (r.2.1 + 1)) fun u => .ok (u.1, u.2.1, r.2.2.1 ++ (u.2.2.1 ++ [- lxk x r.1]), r.2.2.2.1 ++ tkq x r.1 :: u.2.2.2.1, fun w => cmb (lxk x r.1) (r.2.2.2.2 w) (u.2.2.2.2 w)) else .ok r) fun r => if lxk x r.1 = 63 then pQ x (opL x d) r else .ok r) ks ν) := by
    intro e
    have n17 : lxk x r.1 ≠ 17 := by rcases e with z | z | z <;> rw [z] <;> decide
    have as2 : ∀ (r0 : Except q_Er Nat) (f : Nat → q_Res) (g : q_Pr → q_Res), thn (thn r0 f) g = thn r0 fun r => thn (f r) g := by intro r0 f g; cases r0 <;> rfl
    unfold F_X12_readExpr_L36
    rw [if_pos e, as2, wp_bn, xpR12 E1.1]
    refine (rT hx E1 n17 h1 (Pnd_f2 (F := fun b11 => (R_X12_readExpr (m + 4)).2.1 b11) (pdS b L k tp (m + 1))) ?_).1
    intro q1 ρ hq1 E2 h2
    rw [as, wp_bn, xpR12 E2.1]
    refine (q_rB (ks0 := ks) E2 (hF ρ q1 (r.2.1 + 1) _ E2 h2) p52 ?_).2
    intro u σ hu E3 h3
    rw [thn_go]
    refine L52 (u.1, u.2.1, r.2.2.1 ++ (u.2.2.1 ++ [- lxk x r.1]), r.2.2.2.1 ++ tkq x r.1 :: u.2.2.2.1, fun w => cmb (lxk x r.1) (r.2.2.2.2 w) (u.2.2.2.2 w)) σ E3 ?_
    show rS σ b x L k u.1 u.2.1 (12 - d) (ks ++ (r.2.2.2.1 ++ tkq x r.1 :: u.2.2.2.1))
    have : ks ++ (r.2.2.2.1 ++ tkq x r.1 :: u.2.2.2.1) = ks ++ r.2.2.2.1 ++ [tkq x r.1] ++ u.2.2.2.1 := by simp
    rw [this]; exact h3
  rw [wp_bn, xpR12 E1.1, wp_bn, wp_eq (r_isSign E1.1 h1.1 (by decide)), wp_ite]
  by_cases e1 : lxk x r.1 = 60
  · rw [if_pos e1, if_pos (by decide)]; exact L36 (Or.inl e1)
  rw [if_neg e1, if_neg (fun z => z rfl), wp_bn, xpR12 E1.1, wp_bn, wp_eq (r_isSign E1.1 h1.1 (by decide)), wp_ite]
  by_cases e2 : lxk x r.1 = 62
  · rw [if_pos e2, if_pos (by decide)]; exact L36 (Or.inr (Or.inl e2))
  rw [if_neg e2, if_neg (fun z => z rfl), wp_bn, xpR12 E1.1, wp_bn, wp_eq (r_isSign E1.1 h1.1 (by decide)), wp_ite]
  by_cases e3 : lxk x r.1 = 61
  · rw [if_pos e3, if_neg (by decide)]; exact L36 (Or.inr (Or.inr e3))
  · rw [if_neg e3, if_pos rfl, if_neg (fun z => z.elim e1 (fun z => z.elim e2 e3)), thn_go]
    exact L52 r ν E1 h1
theorem r_lv {b L k : Nat} {tp : Nat → Int32} {x : q_Lx} (hx : x = lexOf tp L) (hxo : lOK x) : ∀ d, d ≤ 12 → (∀ n, 4 * d + 5 ≤ n → RSpec b tp L k x ((R_X12_readExpr n).2.2.2 (b + 38)) (pLv x d).2 d) ∧ ∀ n, 4 * d + 8 ≤ n → RSpec b tp L k x ((R_X12_readExpr n).1 (b + 38)) (pLv x d).1 d := by
  intro d
  induction d with
  | zero =>
    intro hd
    have fac : ∀ n, 5 ≤ n → RSpec b tp L k x ((R_X12_readExpr n).2.2.2 (b + 38)) (pFac x (opL x 0)) 0 := by
      intro n hn
      obtain ⟨m, rfl⟩ : ∃ m, n = m + 1 := ⟨n - 1, by omega⟩
      exact r_fac hx hd (by omega) (fun d' h => by omega) (fun d' h => by omega)
    refine ⟨fun n hn => by rw [lv2]; exact fac n (by omega), fun n hn => ?_⟩
    rw [lv1]
    obtain ⟨m, rfl⟩ : ∃ m, n = m + 3 := ⟨n - 3, by omega⟩
    exact r_exp hx hxo hd (by omega) (r_sum hx hxo (by omega) (r_prt hx hxo (by omega) (fac m (by omega)))) (fun d' h => by omega)
  | succ d ih =>
    intro hd
    obtain ⟨i1, i2⟩ := ih (by omega)
    have fac : ∀ n, 4 * (d + 1) + 5 ≤ n → RSpec b tp L k x ((R_X12_readExpr n).2.2.2 (b + 38)) (pFac x (opL x (d + 1))) (d + 1) := by
      intro n hn
      obtain ⟨m, rfl⟩ : ∃ m, n = m + 1 := ⟨n - 1, by omega⟩
      exact r_fac hx hd (by omega) (fun d' h => by cases h; exact i1 _ (by omega)) (fun d' h => by cases h; exact i2 _ (by omega))
    refine ⟨fun n hn => by rw [lv2]; exact fac n (by omega), fun n hn => ?_⟩
    rw [lv1]
    obtain ⟨m, rfl⟩ : ∃ m, n = m + 3 := ⟨n - 3, by omega⟩
    exact r_exp hx hxo hd (by omega) (r_sum hx hxo (by omega) (r_prt hx hxo (by omega) (fac m (by omega)))) (fun d' h => by cases h; exact i2 _ (by omega))

def q_Ev (ν : Mem) (b k : Nat) (T : List q_Tok) (w : Nat → Int32) : Prop := K0 ν b ∧ mI ν 813 (b + 38) = q_i3 k ∧ k < 30 ∧ aI ν 184 (b + 42) k = q_i3 T.length ∧ T.length ≤ 60 ∧ (∀ i, i < T.length → aI ν 192 (b + 43) (60 * k + i) = (T.getD i (0, 0)).1 ∧ aI ν 200 (b + 44) (60 * k + i) = (T.getD i (0, 0)).2) ∧ ∀ j, j < 6 → aI ν 352 (b + 63) j = w j
theorem q_Ev.md {ν ρ : Mem} {b k : Nat} {T : List q_Tok} {w : Nat → Int32} (h : q_Ev ν b k T w) (m : Md [812] ν ρ) : q_Ev ρ b k T w := by
  obtain ⟨h1, h2, h3, h4, h5, h6, h7⟩ := h
  exact ⟨m.k0 h1, by rw [m.1.i 813 rfl]; exact h2, h3, by rw [m.1.ai 184 rfl]; exact h4, h5, by rw [m.1.ai 192 rfl, m.1.ai 200 rfl]; exact h6, by rw [m.1.ai 352 rfl]; exact h7⟩
theorem sAtR {ν : Mem} {b k a : Nat} {T : List q_Tok} {w : Nat → Int32} (h : q_Ev ν b k T w) : Md [812] ν (sI ν 812 (b + 38) (q_i3 a)) ∧ q_Ev (sI ν 812 (b + 38) (q_i3 a)) b k T w ∧ mI (sI ν 812 (b + 38) (q_i3 a)) 812 (b + 38) = q_i3 a := by
  have m : Md [812] ν (sI ν 812 (b + 38) (q_i3 a)) := Md.sI (by rw [kk12 h.1]; omega)
  exact ⟨m, h.md m, by rw [mI_sI', if_pos ⟨rfl, rfl⟩]⟩
def nh (rest : List q_Tok) (c : Int32) : Prop := rest.head? ≠ some (3, c)
theorem e_isNext {ν : Mem} {b k : Nat} {pre rest : List q_Tok} {w : Nat → Int32} {c : Int32} (h : q_Ev ν b k (pre ++ rest) w) (ha : mI ν 812 (b + 38) = q_i3 pre.length) : (rest.head? = some (3, c) → F_X12_isNext (b + 38) c ν = some (1, ν)) ∧ (nh rest c → F_X12_isNext (b + 38) c ν = some (0, ν)) := by
  obtain ⟨hK, h2, h3, h4, h5, h6, h7⟩ := h
  have e44 : mI ν 812 (b + 38) = q_i3 pre.length := ha
  have e45 : mI ν 813 (b + 38) = q_i3 k := h2
  rw [List.length_append] at h4 h5
  have hk30 : k < 30 := h3
  have hg : ∀ r l, rest = r :: l → (pre ++ rest).getD pre.length (0, 0) = r := fun r l e => by rw [e]; simp
  cases rest with
  | nil =>
    rw [List.length_nil, Nat.add_zero] at h4
    have hp : pre.length ≤ 60 := by omega
    refine ⟨fun z => (by cases z), fun _ => ?_⟩
    apply eq_wp
    unfold F_X12_isNext
    simp (maxSteps := 2000000) (disch := first | assumption | omega | (simp only [K0_sI, K0_sL, K0_tI, K0_tL, K0_nE]; assumption)) only [wp_bn, xgI11, xgL11, xwI11, xpR11, xgI4, xgL4, xwI4, xpR4, xgI7, xgL7, xwI7, xpR7, xgI12, xgL12, xwI12, xpR12, xgP11_0, xgP11_1, xgP11_2, xgP11_3, xgP11_4, xgP11_5, xgP11_6, xgP11_7, xgP4_0, xl115, xs115, xgP4_9, xl120, xs120, xgP7_0, xgP7_1, xl136, xs136, xgP7_2, xl144, xs144, xgP12_0, xl160, xs160, xgP12_4, xl168, xs168, xgP12_5, xl176, xs176, xgP12_6, xl184, xs184, xgP12_7, xl192, xs192, xgP12_8, xl200, xs200, xgP12_11, xl209, xs209, xgP12_12, xl218, xs218, xgP12_13, xl226, xs226, xgP12_14, xl232, xs232, xgP12_15, xl241, xs241, xgP12_16, xl248, xs248, xgP12_17, xl256, xs256, xgP12_18, xl264, xs264, xgP12_19, xl274, xs274, xgP12_20, xl280, xs280, xgP12_22, xl288, xs288, xgP12_25, xl296, xs296, xgP12_26, xl305, xs305, xgP12_27, xl312, xs312, xgP12_28, xl321, xs321, xgP12_29, xl328, xs328, xgP12_31, xl336, xs336, xgP12_33, xl344, xs344, xgP12_46, xl352, xs352, xgP12_47, xl360, xs360, xgP2_0, xpL2_0, xgP2_1, xpL2_1, xgP2_2, xpL2_2, xgI2, xwZ2, xpR2, xmo, xpL_5, xpL_33, xpL_34, xpL_35, xpL_36, xpL_37, i3m2, i3m4, i3m5, i3m6, i3m7, i3m12, i3m60, i3m72, i3m1600, i3r6, i3p1, i3p2, i3p3, i3p4, i3p5, i3p6, i3p7, i3p8, i3p9, i3p20, i3_add, i3_mul, i3_toNat, inA_i3, i3_lt, i3_le, i3_eq, Nat.reduceMul, Nat.reduceAdd, e44, e45, hk30, true_and, h4, wp_ite, Nat.le_refl, if_true, wp_rz]
    simp
  | cons r l =>
    rw [List.length_cons] at h4 h5
    have hp : pre.length < 60 := by omega
    have nle : ¬ pre.length + (l.length + 1) ≤ pre.length := by omega
    have b1 : 60 * k + pre.length < 1800 := by omega
    obtain ⟨g1, g2⟩ := h6 pre.length (by rw [List.length_append, List.length_cons]; omega)
    rw [hg r l rfl] at g1 g2
    constructor
    · intro z
      have z : r = (3, c) := by simpa using z
      rw [z] at g1 g2
      apply eq_wp
      unfold F_X12_isNext
      simp (maxSteps := 2000000) (disch := first | assumption | omega | (simp only [K0_sI, K0_sL, K0_tI, K0_tL, K0_nE]; assumption)) only [wp_bn, xgI11, xgL11, xwI11, xpR11, xgI4, xgL4, xwI4, xpR4, xgI7, xgL7, xwI7, xpR7, xgI12, xgL12, xwI12, xpR12, xgP11_0, xgP11_1, xgP11_2, xgP11_3, xgP11_4, xgP11_5, xgP11_6, xgP11_7, xgP4_0, xl115, xs115, xgP4_9, xl120, xs120, xgP7_0, xgP7_1, xl136, xs136, xgP7_2, xl144, xs144, xgP12_0, xl160, xs160, xgP12_4, xl168, xs168, xgP12_5, xl176, xs176, xgP12_6, xl184, xs184, xgP12_7, xl192, xs192, xgP12_8, xl200, xs200, xgP12_11, xl209, xs209, xgP12_12, xl218, xs218, xgP12_13, xl226, xs226, xgP12_14, xl232, xs232, xgP12_15, xl241, xs241, xgP12_16, xl248, xs248, xgP12_17, xl256, xs256, xgP12_18, xl264, xs264, xgP12_19, xl274, xs274, xgP12_20, xl280, xs280, xgP12_22, xl288, xs288, xgP12_25, xl296, xs296, xgP12_26, xl305, xs305, xgP12_27, xl312, xs312, xgP12_28, xl321, xs321, xgP12_29, xl328, xs328, xgP12_31, xl336, xs336, xgP12_33, xl344, xs344, xgP12_46, xl352, xs352, xgP12_47, xl360, xs360, xgP2_0, xpL2_0, xgP2_1, xpL2_1, xgP2_2, xpL2_2, xgI2, xwZ2, xpR2, xmo, xpL_5, xpL_33, xpL_34, xpL_35, xpL_36, xpL_37, i3m2, i3m4, i3m5, i3m6, i3m7, i3m12, i3m60, i3m72, i3m1600, i3r6, i3p1, i3p2, i3p3, i3p4, i3p5, i3p6, i3p7, i3p8, i3p9, i3p20, i3_add, i3_mul, i3_toNat, inA_i3, i3_lt, i3_le, i3_eq, Nat.reduceMul, Nat.reduceAdd, e44, e45, hk30, true_and, h4, wp_ite, nle, if_false, b1, g1, g2, wp_rz]
      simp
    · intro z
      have z : ¬ (r.1 = 3 ∧ r.2 = c) := fun y => z (by show some r = some (3, c); rw [show r = (3, c) from Prod.ext y.1 y.2])
      apply eq_wp
      unfold F_X12_isNext
      simp (maxSteps := 2000000) (disch := first | assumption | omega | (simp only [K0_sI, K0_sL, K0_tI, K0_tL, K0_nE]; assumption)) only [wp_bn, xgI11, xgL11, xwI11, xpR11, xgI4, xgL4, xwI4, xpR4, xgI7, xgL7, xwI7, xpR7, xgI12, xgL12, xwI12, xpR12, xgP11_0, xgP11_1, xgP11_2, xgP11_3, xgP11_4, xgP11_5, xgP11_6, xgP11_7, xgP4_0, xl115, xs115, xgP4_9, xl120, xs120, xgP7_0, xgP7_1, xl136, xs136, xgP7_2, xl144, xs144, xgP12_0, xl160, xs160, xgP12_4, xl168, xs168, xgP12_5, xl176, xs176, xgP12_6, xl184, xs184, xgP12_7, xl192, xs192, xgP12_8, xl200, xs200, xgP12_11, xl209, xs209, xgP12_12, xl218, xs218, xgP12_13, xl226, xs226, xgP12_14, xl232, xs232, xgP12_15, xl241, xs241, xgP12_16, xl248, xs248, xgP12_17, xl256, xs256, xgP12_18, xl264, xs264, xgP12_19, xl274, xs274, xgP12_20, xl280, xs280, xgP12_22, xl288, xs288, xgP12_25, xl296, xs296, xgP12_26, xl305, xs305, xgP12_27, xl312, xs312, xgP12_28, xl321, xs321, xgP12_29, xl328, xs328, xgP12_31, xl336, xs336, xgP12_33, xl344, xs344, xgP12_46, xl352, xs352, xgP12_47, xl360, xs360, xgP2_0, xpL2_0, xgP2_1, xpL2_1, xgP2_2, xpL2_2, xgI2, xwZ2, xpR2, xmo, xpL_5, xpL_33, xpL_34, xpL_35, xpL_36, xpL_37, i3m2, i3m4, i3m5, i3m6, i3m7, i3m12, i3m60, i3m72, i3m1600, i3r6, i3p1, i3p2, i3p3, i3p4, i3p5, i3p6, i3p7, i3p8, i3p9, i3p20, i3_add, i3_mul, i3_toNat, inA_i3, i3_lt, i3_le, i3_eq, Nat.reduceMul, Nat.reduceAdd, e44, e45, hk30, true_and, h4, wp_ite, nle, if_false, b1, g1, g2, wp_rz]
      by_cases e3 : r.1 = 3
      · have ec : r.2 ≠ c := fun y => z ⟨e3, y⟩
        simp [e3, ec]
      · simp [e3]
def ESpec (b k : Nat) (w : Nat → Int32) (G : M Int32) (F : Nat → Nat → q_Res) (fol : List q_Tok → Prop) : Prop := ∀ q t u, F q t = .ok u → ∀ ν pre rest, q_Ev ν b k (pre ++ (u.2.2.2.1 ++ rest)) w → mI ν 812 (b + 38) = q_i3 pre.length → fol rest → q_wp G ν (fun v ρ => v = u.2.2.2.2 w ∧ Md [812] ν ρ ∧ mI ρ 812 (b + 38) = q_i3 (pre ++ u.2.2.2.1).length)
def folF (_ : List q_Tok) : Prop := True
def folP (r : List q_Tok) : Prop := nh r 42 ∧ nh r 47
def folS (r : List q_Tok) : Prop := folP r ∧ nh r 43 ∧ nh r 45
def folE (r : List q_Tok) : Prop := folS r ∧ nh r 60 ∧ nh r 62 ∧ nh r 61 ∧ nh r 63
theorem e_inc {ν : Mem} {b k a : Nat} {T : List q_Tok} {w : Nat → Int32} {K : M Int32} {Q : Int32 → Mem → Prop} (h : q_Ev ν b k T w) (ha : mI ν 812 (b + 38) = q_i3 a) (hQ : ∀ ρ, q_Ev ρ b k T w → Md [812] ν ρ → mI ρ 812 (b + 38) = q_i3 (a + 1) → q_wp K ρ Q) : q_wp (bn (gI 12 44 (some (b + 38))) fun v => bn (wI 12 44 (some (b + 38)) (v + (1 : Int32))) fun _ => K) ν Q := by
  rw [wp_bn, xgI12 h.1, show mI ν (64 * 12 + 44) (b + 38) = q_i3 a from ha, i3_1, wp_bn, xwI12 h.1]
  obtain ⟨m, E, h1⟩ := sAtR (a := a + 1) h
  exact hQ _ E m h1
theorem tkq_s {x : q_Lx} {q : Nat} {c : Int32} (h : lxk x q = c) (hc : rkk c = 3) : tkq x q = (3, c) := by
  unfold tkq; rw [h, hc, (rkk3 hc).2.2]
theorem nh_of {r : q_Tok} {l : List q_Tok} {c : Int32} (h : r ≠ (3, c)) : nh (r :: l) c := fun z => h (by simpa using z)
theorem folE_s {c : Int32} {l : List q_Tok} (h : c ≠ 42 ∧ c ≠ 47 ∧ c ≠ 43 ∧ c ≠ 45 ∧ c ≠ 60 ∧ c ≠ 62 ∧ c ≠ 61 ∧ c ≠ 63) : folE ((3, c) :: l) := by
  obtain ⟨h1, h2, h3, h4, h5, h6, h7, h8⟩ := h
  have : ∀ d, c ≠ d → nh ((3, c) :: l) d := fun d hd => nh_of (fun z => hd (by injection z))
  exact ⟨⟨⟨this _ h1, this _ h2⟩, this _ h3, this _ h4⟩, this _ h5, this _ h6, this _ h7, this _ h8⟩
theorem cmb_min (a y : Int32) : (if ¬ (1 : Int32) = (if y ≤ a then 0 else 1) then y else a) = cmb 14 a y := by
  unfold cmb; rw [if_pos rfl]
  by_cases h : y ≤ a
  · rw [if_pos h, if_pos (by decide)]
    by_cases h2 : y < a
    · rw [if_pos h2]
    · rw [if_neg h2]; rw [Int32.le_iff_toInt_le] at h; rw [Int32.lt_iff_toInt_lt] at h2; exact Int32.toInt_inj.mp (by omega)
  · rw [if_neg h, if_neg (fun z => z rfl)]
    rw [if_neg (fun z => by rw [Int32.le_iff_toInt_le] at h; rw [Int32.lt_iff_toInt_lt] at z; omega)]
theorem cmb15 (a y : Int32) : cmb 15 a y = if a < y then y else a := by
  unfold cmb
  rw [if_neg (by decide), if_neg (by decide), if_neg (by decide), if_neg (by decide), if_neg (by decide), if_neg (by decide), if_neg (by decide), if_neg (by decide)]
theorem cmb_max (a y : Int32) : (if ¬ (0 : Int32) = (if y ≤ a then 0 else 1) then y else a) = cmb 15 a y := by
  rw [cmb15]
  by_cases h : y ≤ a
  · rw [if_pos h, if_neg (fun z => z rfl), if_neg (fun z => by rw [Int32.le_iff_toInt_le] at h; rw [Int32.lt_iff_toInt_lt] at z; omega)]
  · rw [if_neg h, if_pos (by decide), if_pos (by rw [Int32.le_iff_toInt_le] at h; rw [Int32.lt_iff_toInt_lt]; omega)]
theorem e_fac {b k n d : Nat} {tp : Nat → Int32} {L : Nat} {x : q_Lx} {w : Nat → Int32} (hx : x = lexOf tp L) (hF' : ∀ d', d = d' + 1 → ESpec b k w ((R_X12_expr n).2.2.2 (b + 38)) (pLv x d').2 folF) (hE' : ∀ d', d = d' + 1 → ESpec b k w ((R_X12_expr n).1 (b + 38)) (pLv x d').1 folE) : ESpec b k w ((R_X12_expr (n + 1)).2.2.2 (b + 38)) (pFac x (opL x d)) folF := by
  intro q t u hu ν pre rest hV ha _
  show q_wp (F_X12_factor_B (R_X12_expr n).1 (R_X12_expr n).2.1 (R_X12_expr n).2.2.1 (R_X12_expr n).2.2.2 (b + 38)) ν _
  have head : ∀ (r : q_Tok) (l : List q_Tok) (Q : Int32 → Mem → Prop), u.2.2.2.1 = r :: l → (∀ ρ, q_Ev ρ b k (pre ++ (u.2.2.2.1 ++ rest)) w → Md [812] ν ρ → mI ρ 812 (b + 38) = q_i3 (pre.length + 1) → q_wp (if ¬ r.1 = (1 : Int32) then if ¬ r.1 = (2 : Int32) then F_X12_factor_L65 (R_X12_expr n).1 (R_X12_expr n).2.1 (R_X12_expr n).2.2.1 (R_X12_expr n).2.2.2 (b + 38) r.1 r.2 else if r.2 < (10 : Int32) then F_X12_factor_L65 (R_X12_expr n).1 (R_X12_expr n).2.1 (R_X12_expr n).2.2.1 (R_X12_expr n).2.2.2 (b + 38) r.1 r.2 else bn (gP 12 46 (some (b + 38))) fun v8 => bn (lI 352 v8 (r.2 - (10 : Int32))) fun v9 => rt v9 else rt r.2) ρ Q) → q_wp (F_X12_factor_B (R_X12_expr n).1 (R_X12_expr n).2.1 (R_X12_expr n).2.2.1 (R_X12_expr n).2.2.2 (b + 38)) ν Q := by
    intro r l Q er hQ
    obtain ⟨hK, h2, h3, h4, h5, h6, h7⟩ := id hV
    have e44 : mI ν 812 (b + 38) = q_i3 pre.length := ha
    have e45 : mI ν 813 (b + 38) = q_i3 k := h2
    have hlen : pre.length < (pre ++ (u.2.2.2.1 ++ rest)).length := by rw [er]; simp
    have b1 : 60 * k + pre.length < 1800 := by omega
    obtain ⟨g1, g2⟩ := h6 pre.length hlen
    have eg : (pre ++ (u.2.2.2.1 ++ rest)).getD pre.length (0, 0) = r := by rw [er]; simp
    rw [eg] at g1 g2
    unfold F_X12_factor_B
    rw [wp_bn, xgI12 hK, show mI ν (64 * 12 + 45) (b + 38) = q_i3 k from e45, wp_bn, xgI12 hK, show mI ν (64 * 12 + 44) (b + 38) = q_i3 pre.length from e44, wp_bn, xgP12_7 hK, i3m60, i3_add, wp_bn, xl192 hK, inA_i3 (by omega), i3_toNat (by omega), g1, wp_bn, xgP12_8 hK, wp_bn, xl200 hK, inA_i3 (by omega), i3_toNat (by omega), g2]
    refine ⟨b1, b1, ?_⟩
    exact e_inc hV ha hQ
  unfold pFac at hu
  split at hu
  · rename_i e
    obtain ⟨q1, _, h2⟩ := thn_ok hu
    cases h2
    have et : tkq x q = (1, lxv x q) := by unfold tkq; rw [e]; rfl
    refine head (1, lxv x q) [] _ (by show [tkq x q] = _; rw [et]) fun ρ hV1 m1 a1 => ?_
    rw [wp_ite, if_neg (fun z => z rfl), wp_rt]
    exact ⟨rfl, m1, by rw [a1]; simp⟩
  split at hu
  · rename_i e0 e
    obtain ⟨q1, _, h2⟩ := thn_ok hu
    cases h2
    have z6 : (6 : Int32).toInt = 6 := rfl
    have z12 : (12 : Int32).toInt = 12 := rfl
    have z0 : (0 : Int32).toInt = 0 := rfl
    obtain ⟨j, hj, ej⟩ : ∃ j, j < 6 ∧ lxk x q = q_i3 (j + 6) := by
      have c1 := e.1; have c2 := e.2
      rw [Int32.lt_iff_toInt_lt, z6] at c1
      rw [Int32.lt_iff_toInt_lt, z12] at c2
      refine ⟨((lxk x q).toInt - 6).toNat, by omega, Int32.toInt_inj.mp ?_⟩
      rw [i3_toInt (by omega)]; omega
    have key : ∀ j : Fin 6, rkk (q_i3 (j.1 + 6)) = 2 ∧ (∀ n : Int32, rvv (q_i3 (j.1 + 6)) n = q_i3 (j.1 + 10)) ∧ q_i3 (j.1 + 10) - 10 = q_i3 j.1 ∧ (q_i3 (j.1 + 6) - 6).toNatClampNeg = j.1 ∧ ¬ q_i3 (j.1 + 10) < 10 := by
      intro j
      refine ⟨?_, ?_, ?_, ?_, ?_⟩
      · revert j; decide
      · intro n
        have h1 : ∀ j : Fin 6, q_i3 (j.1 + 6) ≠ 16 ∧ ¬ q_i3 (j.1 + 6) < 6 ∧ q_i3 (j.1 + 6) < 12 ∧ q_i3 (j.1 + 6) + 4 = q_i3 (j.1 + 10) := by decide
        obtain ⟨a1, a2, a3, a4⟩ := h1 j
        unfold rvv; rw [if_neg a1, if_neg a2, if_pos a3, a4]
      · revert j; decide
      · revert j; decide
      · revert j; decide
    obtain ⟨k1, k2, k3, k4, k5⟩ := key ⟨j, hj⟩
    have et : tkq x q = (2, q_i3 (j + 10)) := by unfold tkq; rw [ej, k1, k2]
    refine head (2, q_i3 (j + 10)) [] _ (by show [tkq x q] = _; rw [et]) fun ρ hV1 m1 a1 => ?_
    rw [wp_ite, if_pos (show ¬ (2 : Int32) = 1 by decide), wp_ite, if_neg (fun z => z rfl), wp_ite, if_neg k5, wp_bn, xgP12_46 hV1.1, k3, wp_bn, xl352 hV1.1, inA_i3 (by omega), i3_toNat (by omega), hV1.2.2.2.2.2.2 j hj, wp_rt]
    refine ⟨hj, ?_, m1, by rw [a1]; simp⟩
    show w j = w (lxk x q - 6).toNatClampNeg
    rw [ej, k4]
  split at hu
  · rename_i e45
    unfold pNg at hu
    cases d with
    | zero => cases hu
    | succ d =>
      obtain ⟨q1, _, h2⟩ := thn_ok hu
      obtain ⟨r, hr, h3⟩ := thn_ok h2
      cases h3
      have et : tkq x q = (3, 45) := tkq_s e45 (by decide)
      refine head (3, 45) r.2.2.2.1 _ (by show tkq x q :: _ = _; rw [et]) fun ρ hV1 m1 a1 => ?_
      rw [wp_ite, if_pos (by decide), wp_ite, if_pos (by decide)]
      unfold F_X12_factor_L65
      rw [wp_ite, if_neg (fun z => z rfl), wp_ite, if_neg (fun z => z rfl), wp_bn, xpR12 hV1.1, wp_bn]
      have eT : pre ++ (tkq x q :: r.2.2.2.1 ++ rest) = (pre ++ [tkq x q]) ++ (r.2.2.2.1 ++ rest) := by simp
      have hV1' : q_Ev ρ b k ((pre ++ [tkq x q]) ++ (r.2.2.2.1 ++ rest)) w := by rw [← eT]; exact hV1
      refine q_wp_mono (hF' d rfl q1 (t + 1) r hr ρ (pre ++ [tkq x q]) rest hV1' (by rw [a1]; simp) trivial) ?_
      rintro v σ ⟨rfl, m2, a2⟩
      rw [wp_rt]
      exact ⟨rfl, (m1.tr m2).wk rfl, by rw [a2]; simp⟩
  split at hu
  · rename_i e40
    unfold pB1 at hu
    cases d with
    | zero => cases hu
    | succ d =>
      obtain ⟨q1, _, h2⟩ := thn_ok hu
      obtain ⟨r, hr, h3⟩ := thn_ok h2
      split at h3
      rotate_left
      · cases h3
      rename_i e41
      obtain ⟨q3, _, h4⟩ := thn_ok h3
      cases h4
      have et : tkq x q = (3, 40) := tkq_s e40 (by decide)
      have et2 : tkq x r.1 = (3, 41) := tkq_s e41 (by decide)
      refine head (3, 40) (r.2.2.2.1 ++ [tkq x r.1]) _ (by show tkq x q :: _ = _; rw [et]) fun ρ hV1 m1 a1 => ?_
      rw [wp_ite, if_pos (by decide), wp_ite, if_pos (by decide)]
      unfold F_X12_factor_L65 F_X12_factor_L82
      rw [wp_ite, if_neg (fun z => z rfl), wp_ite, if_pos (by decide), wp_ite, if_neg (fun z => z rfl), wp_bn, xpR12 hV1.1, wp_bn]
      have eT : pre ++ (tkq x q :: (r.2.2.2.1 ++ [tkq x r.1]) ++ rest) = (pre ++ [tkq x q]) ++ (r.2.2.2.1 ++ (tkq x r.1 :: rest)) := by simp
      have hV1' : q_Ev ρ b k ((pre ++ [tkq x q]) ++ (r.2.2.2.1 ++ (tkq x r.1 :: rest))) w := by rw [← eT]; exact hV1
      refine q_wp_mono (hE' d rfl q1 (t + 1) r hr ρ (pre ++ [tkq x q]) (tkq x r.1 :: rest) hV1' (by rw [a1]; simp) (by rw [et2]; exact folE_s (by decide))) ?_
      rintro v σ ⟨rfl, m2, a2⟩
      refine e_inc (hV1'.md m2) a2 fun τ _ m3 a3 => ?_
      rw [wp_rt]
      exact ⟨rfl, ((m1.tr m2).tr m3).wk rfl, by rw [a3]; congr 1; simp <;> omega⟩
  split at hu
  · rename_i emm
    unfold pMM at hu
    obtain ⟨q1, _, h2⟩ := thn_ok hu
    split at h2
    rotate_left
    · cases h2
    rename_i e40
    obtain ⟨r0, hr0, h3⟩ := thn_ok h2
    cases h3
    unfold pB2 at hr0
    cases d with
    | zero => cases hr0
    | succ d =>
      obtain ⟨q2, _, h4⟩ := thn_ok hr0
      obtain ⟨r, hr, h5⟩ := thn_ok h4
      split at h5
      rotate_left
      · cases h5
      rename_i e44
      obtain ⟨q3, _, h6⟩ := thn_ok h5
      obtain ⟨y, hy, h7⟩ := thn_ok h6
      split at h7
      rotate_left
      · cases h7
      rename_i e41
      obtain ⟨q5, _, h8⟩ := thn_ok h7
      cases h8
      have et2 : tkq x r.1 = (3, 44) := tkq_s e44 (by decide)
      have et3 : tkq x y.1 = (3, 41) := tkq_s e41 (by decide)
      obtain ⟨mm, em, ev, hmm⟩ : ∃ mm : Int32, tkq x q = (2, mm) ∧ mm < 10 ∧ ((mm = 8 ∧ lxk x q = 14) ∨ (mm ≠ 8 ∧ lxk x q = 15)) := by
        rcases emm with z | z
        · exact ⟨8, by unfold tkq; rw [z]; rfl, by decide, Or.inl ⟨rfl, z⟩⟩
        · exact ⟨9, by unfold tkq; rw [z]; rfl, by decide, Or.inr ⟨by decide, z⟩⟩
      obtain ⟨tk1, etk1⟩ : ∃ tk1, tk1 = tkq x q1 := ⟨_, rfl⟩
      refine head (2, mm) (tkq x q1 :: (r.2.2.2.1 ++ tkq x r.1 :: (y.2.2.2.1 ++ [tkq x y.1]))) _ (by show tkq x q :: _ = _; rw [em]) fun ρ hV1 m1 a1 => ?_
      rw [wp_ite, if_pos (show ¬ (2 : Int32) = 1 by decide), wp_ite, if_neg (fun z => z rfl), wp_ite, if_pos ev]
      unfold F_X12_factor_L65 F_X12_factor_L82
      rw [wp_ite, if_pos (show ¬ (2 : Int32) = 3 by decide), wp_ite, if_pos (show ¬ (2 : Int32) = 3 by decide)]
      have eT : pre ++ (tkq x q :: (tkq x q1 :: (r.2.2.2.1 ++ tkq x r.1 :: (y.2.2.2.1 ++ [tkq x y.1]))) ++ rest) = (pre ++ [tkq x q, tkq x q1]) ++ (r.2.2.2.1 ++ (tkq x r.1 :: (y.2.2.2.1 ++ (tkq x y.1 :: rest)))) := by simp
      have hV1' : q_Ev ρ b k ((pre ++ [tkq x q, tkq x q1]) ++ (r.2.2.2.1 ++ (tkq x r.1 :: (y.2.2.2.1 ++ (tkq x y.1 :: rest))))) w := by rw [← eT]; exact hV1
      refine e_inc hV1' a1 fun ρ2 hV2 m2 a2 => ?_
      rw [wp_bn, xpR12 hV2.1, wp_bn]
      refine q_wp_mono (hE' d rfl q2 (t + 1 + 1) r hr ρ2 (pre ++ [tkq x q, tkq x q1]) (tkq x r.1 :: (y.2.2.2.1 ++ (tkq x y.1 :: rest))) hV2 (by rw [a2]; congr 1; simp <;> omega) (by rw [et2]; exact folE_s (by decide))) ?_
      rintro v σ ⟨rfl, m3, a3⟩
      refine e_inc (hV2.md m3) a3 fun ρ3 hV3 m4 a4 => ?_
      have eT2 : (pre ++ [tkq x q, tkq x q1]) ++ (r.2.2.2.1 ++ (tkq x r.1 :: (y.2.2.2.1 ++ (tkq x y.1 :: rest)))) = (pre ++ [tkq x q, tkq x q1] ++ r.2.2.2.1 ++ [tkq x r.1]) ++ (y.2.2.2.1 ++ (tkq x y.1 :: rest)) := by simp
      rw [eT2] at hV3
      rw [wp_bn, xpR12 hV3.1, wp_bn]
      refine q_wp_mono (hE' d rfl q3 (r.2.1 + 1) y hy ρ3 (pre ++ [tkq x q, tkq x q1] ++ r.2.2.2.1 ++ [tkq x r.1]) (tkq x y.1 :: rest) hV3 (by rw [a4]; congr 1; simp <;> omega) (by rw [et3]; exact folE_s (by decide))) ?_
      rintro v σ2 ⟨rfl, m5, a5⟩
      refine e_inc (hV3.md m5) a5 fun ρ4 hV4 m6 a6 => ?_
      have mAll := (((((m1.tr m2).tr m3).tr m4).tr m5).tr m6).wk (T := [812]) rfl
      have fin : mI ρ4 812 (b + 38) = q_i3 (pre ++ (tkq x q :: (tkq x q1 :: (r.2.2.2.1 ++ tkq x r.1 :: (y.2.2.2.1 ++ [tkq x y.1]))))).length := by
        rw [a6]; congr 1; simp <;> omega
      unfold F_X12_factor_L159 F_X12_factor_L171
      rw [wp_ite]
      rcases hmm with ⟨rfl, e14⟩ | ⟨hm8, e15⟩
      · rw [if_neg (fun z => z rfl)]
        have c := cmb_min (r.2.2.2.2 w) (y.2.2.2.2 w)
        rw [wp_ite]
        by_cases hle : y.2.2.2.2 w ≤ r.2.2.2.2 w
        · rw [if_pos hle] at c ⊢
          rw [if_pos (by decide)] at c
          rw [wp_ite, if_pos (by decide), wp_rt]
          exact ⟨by show _ = cmb (lxk x q) _ _; rw [e14, ← c], mAll, fin⟩
        · rw [if_neg hle] at c ⊢
          rw [if_neg (fun z => z rfl)] at c
          rw [wp_ite, if_neg (fun z => z rfl), wp_rt]
          exact ⟨by show _ = cmb (lxk x q) _ _; rw [e14, ← c], mAll, fin⟩
      · rw [if_pos hm8]
        have c := cmb_max (r.2.2.2.2 w) (y.2.2.2.2 w)
        rw [wp_ite]
        by_cases hle : y.2.2.2.2 w ≤ r.2.2.2.2 w
        · rw [if_pos hle] at c ⊢
          rw [if_neg (fun z => z rfl)] at c
          rw [wp_ite, if_neg (fun z => z rfl), wp_rt]
          exact ⟨by show _ = cmb (lxk x q) _ _; rw [e15, ← c], mAll, fin⟩
        · rw [if_neg hle] at c ⊢
          rw [if_pos (by decide)] at c
          rw [wp_ite, if_pos (by decide), wp_rt]
          exact ⟨by show _ = cmb (lxk x q) _ _; rw [e15, ← c], mAll, fin⟩
  · cases hu

theorem lp_pre {x : q_Lx} {s1 s2 : Int32} {F : Nat → Nat → q_Res} (h1 : rkk s1 = 3) (h2 : rkk s2 = 3) : ∀ (g : Nat) (r u : q_Pr), pLp x s1 s2 F g r = .ok u → ∃ m, u.2.2.2.1 = r.2.2.2.1 ++ m ∧ (m = [] ∨ ∃ c l, (c = s1 ∨ c = s2) ∧ m = (3, c) :: l) := by
  intro g
  induction g with
  | zero => intro r u h; cases h
  | succ g ih =>
    intro r u h
    unfold pLp at h
    split at h
    · rename_i e
      obtain ⟨q1, _, h3⟩ := thn_ok h
      obtain ⟨y, _, h4⟩ := thn_ok h3
      obtain ⟨m, hm, _⟩ := ih _ u h4
      have et : tkq x r.1 = (3, lxk x r.1) := tkq_s rfl (by rcases e with z | z <;> rw [z] <;> assumption)
      refine ⟨tkq x r.1 :: y.2.2.2.1 ++ m, ?_, Or.inr ⟨lxk x r.1, y.2.2.2.1 ++ m, e, by rw [et]; rfl⟩⟩
      rw [hm]
      show (r.2.2.2.1 ++ tkq x r.1 :: y.2.2.2.1) ++ m = _
      simp
    · cases h; exact ⟨[], by simp, Or.inl rfl⟩
theorem q_Ev.re {ν : Mem} {b k : Nat} {T T' : List q_Tok} {w : Nat → Int32} (h : q_Ev ν b k T w) (e : T = T') : q_Ev ν b k T' w := by rw [← e]; exact h
theorem e_ploop {b k : Nat} {x : q_Lx} {w : Nat → Int32} {rE rS' rP rF : Nat → M Int32} {F : Nat → Nat → q_Res} (hF : ESpec b k w (rF (b + 38)) F folF) {pre rest : List q_Tok} (hfol : folP rest) : ∀ (g f : Nat) (r u : q_Pr) (ν : Mem), pLp x 42 47 F g r = .ok u → g ≤ f → q_Ev ν b k (pre ++ (u.2.2.2.1 ++ rest)) w → mI ν 812 (b + 38) = q_i3 (pre ++ r.2.2.2.1).length → q_wp (F_X12_part_L5 rE rS' rP rF (f + 1) (b + 38) (r.2.2.2.2 w)) ν (fun v ρ => v = u.2.2.2.2 w ∧ Md [812] ν ρ ∧ mI ρ 812 (b + 38) = q_i3 (pre ++ u.2.2.2.1).length) := by
  intro g
  induction g with
  | zero => intro f r u ν h; cases h
  | succ g ih =>
    intro f r u ν h hf hV ha
    obtain ⟨m, hm, hm'⟩ := lp_pre (by decide) (by decide) (g + 1) r u h
    have hV1 : q_Ev ν b k ((pre ++ r.2.2.2.1) ++ (m ++ rest)) w := hV.re (by rw [hm]; simp)
    unfold pLp at h
    by_cases e : lxk x r.1 = 42 ∨ lxk x r.1 = 47
    · rw [if_pos e] at h
      obtain ⟨q1, _, h3⟩ := thn_ok h
      obtain ⟨y, hy, h4⟩ := thn_ok h3
      obtain ⟨m2, hm2, _⟩ := lp_pre (x := x) (F := F) (by decide) (by decide) g _ u h4
      have hm2 : u.2.2.2.1 = r.2.2.2.1 ++ tkq x r.1 :: y.2.2.2.1 ++ m2 := hm2
      have et : tkq x r.1 = (3, lxk x r.1) := tkq_s rfl (by rcases e with z | z <;> rw [z] <;> decide)
      have emr : m ++ rest = (3, lxk x r.1) :: (y.2.2.2.1 ++ (m2 ++ rest)) := by
        have : m = tkq x r.1 :: y.2.2.2.1 ++ m2 := by
          have := hm.symm.trans hm2
          rw [List.append_assoc] at this
          exact List.append_cancel_left this
        rw [this, et]; simp
      obtain ⟨f, rfl⟩ : ∃ f', f = f' + 1 := ⟨f - 1, by omega⟩
      have go : ∀ y0 : Int32, y0 = (if lxk x r.1 = 42 then 1 else 0) → q_wp (bn (gI 12 44 (some (b + 38))) fun v9 => bn (wI 12 44 (some (b + 38)) (v9 + (1 : Int32))) fun _ => bn (pRc 12 (some (b + 38))) fun b10 => bn (rF b10) fun v11 => if y0 = 0 then if ¬ v11 = 0 then bn (dvI (r.2.2.2.2 w) v11) fun _ => F_X12_part_L66 rE rS' rP rF (F_X12_part_L5 rE rS' rP rF (f + 1)) (b + 38) ((r.2.2.2.2 w) / v11) else F_X12_part_L66 rE rS' rP rF (F_X12_part_L5 rE rS' rP rF (f + 1)) (b + 38) (0 : Int32) else F_X12_part_L66 rE rS' rP rF (F_X12_part_L5 rE rS' rP rF (f + 1)) (b + 38) ((r.2.2.2.2 w) * v11)) ν (fun v ρ => v = u.2.2.2.2 w ∧ Md [812] ν ρ ∧ mI ρ 812 (b + 38) = q_i3 (pre ++ u.2.2.2.1).length) := by
        intro y0 ey
        refine e_inc hV1 ha fun ρ hV2 m1 a1 => ?_
        have hV3 : q_Ev ρ b k ((pre ++ r.2.2.2.1 ++ [tkq x r.1]) ++ (y.2.2.2.1 ++ (m2 ++ rest))) w := hV2.re (by rw [emr, et]; simp)
        rw [wp_bn, xpR12 hV3.1, wp_bn]
        refine q_wp_mono (hF _ _ y hy ρ (pre ++ r.2.2.2.1 ++ [tkq x r.1]) (m2 ++ rest) hV3 (by rw [a1]; congr 1; simp <;> omega) trivial) ?_
        rintro v σ ⟨rfl, m2', a2⟩
        have nxt : ∀ z, z = cmb (lxk x r.1) (r.2.2.2.2 w) (y.2.2.2.2 w) → q_wp (F_X12_part_L5 rE rS' rP rF (f + 1) (b + 38) z) σ (fun v ρ => v = u.2.2.2.2 w ∧ Md [812] ν ρ ∧ mI ρ 812 (b + 38) = q_i3 (pre ++ u.2.2.2.1).length) := by
          intro z ez
          rw [ez]
          have ea : q_i3 (pre ++ r.2.2.2.1 ++ [tkq x r.1] ++ y.2.2.2.1).length = q_i3 (pre ++ (r.2.2.2.1 ++ tkq x r.1 :: y.2.2.2.1)).length := by congr 1; simp
          have key := ih f (y.1, y.2.1, r.2.2.1 ++ (y.2.2.1 ++ [- lxk x r.1]), r.2.2.2.1 ++ tkq x r.1 :: y.2.2.2.1, fun w => cmb (lxk x r.1) (r.2.2.2.2 w) (y.2.2.2.2 w)) u σ h4 (by omega) ((hV.md m1).md m2') (a2.trans ea)
          refine q_wp_mono key ?_
          rintro v τ ⟨rfl, m3, a3⟩
          exact ⟨rfl, ((m1.tr m2').tr m3).wk rfl, a3⟩
        unfold F_X12_part_L66
        rw [wp_ite]
        rcases e with e42 | e47
        · rw [if_pos e42] at ey
          rw [ey, if_neg (by decide)]
          exact nxt _ (by rw [e42]; rfl)
        · rw [if_neg (by rw [e47]; decide)] at ey
          rw [ey, if_pos rfl, wp_ite]
          have c47 : cmb (lxk x r.1) (r.2.2.2.2 w) (y.2.2.2.2 w) = if y.2.2.2.2 w = 0 then 0 else (r.2.2.2.2 w) / (y.2.2.2.2 w) := by rw [e47]; rfl
          by_cases h0 : y.2.2.2.2 w = 0
          · rw [if_neg (fun z => z h0)]; exact nxt _ (by rw [c47, if_pos h0])
          · rw [if_pos h0, wp_bn, wp_dvI]; exact ⟨h0, nxt _ (by rw [c47, if_neg h0])⟩
      unfold F_X12_part_L5 F_X12_part_L23
      rw [wp_bn, xpR12 hV.1, wp_bn]
      rcases e with e42 | e47
      · have h42 : (m ++ rest).head? = some (3, 42) := by rw [emr, e42]; rfl
        rw [wp_eq ((e_isNext hV1 ha).1 h42), wp_ite, if_pos (by decide), wp_bn, xpR12 hV.1, wp_bn, wp_eq ((e_isNext hV1 ha).1 h42)]
        exact go 1 (by rw [if_pos e42])
      · have h47 : (m ++ rest).head? = some (3, 47) := by rw [emr, e47]; rfl
        have n42 : nh (m ++ rest) 42 := by rw [emr, e47]; exact nh_of (by decide)
        rw [wp_eq ((e_isNext hV1 ha).2 n42), wp_ite, if_neg (fun z => z rfl), wp_bn, xpR12 hV.1, wp_bn, wp_eq ((e_isNext hV1 ha).1 h47), wp_ite, if_neg (by decide), wp_bn, xpR12 hV.1, wp_bn, wp_eq ((e_isNext hV1 ha).2 n42)]
        exact go 0 (by rw [if_neg (by rw [e47]; decide)])
    · rw [if_neg e] at h
      cases h
      have em : m = [] := by
        have : r.2.2.2.1 ++ [] = r.2.2.2.1 ++ m := by rw [List.append_nil]; exact hm
        exact (List.append_cancel_left this).symm
      rw [em, List.nil_append] at hV1
      unfold F_X12_part_L5
      rw [wp_bn, xpR12 hV.1, wp_bn, wp_eq ((e_isNext hV1 ha).2 hfol.1), wp_ite, if_neg (fun z => z rfl), wp_bn, xpR12 hV.1, wp_bn, wp_eq ((e_isNext hV1 ha).2 hfol.2), wp_ite, if_pos rfl, wp_rt]
      exact ⟨rfl, (Md.rf ν).wk rfl, ha⟩
theorem e_sloop {b k : Nat} {x : q_Lx} {w : Nat → Int32} {rE rS' rP rF : Nat → M Int32} {F : Nat → Nat → q_Res} (hF : ESpec b k w (rP (b + 38)) F folP) {pre rest : List q_Tok} (hfol : folS rest) : ∀ (g f : Nat) (r u : q_Pr) (ν : Mem), pLp x 43 45 F g r = .ok u → g ≤ f → q_Ev ν b k (pre ++ (u.2.2.2.1 ++ rest)) w → mI ν 812 (b + 38) = q_i3 (pre ++ r.2.2.2.1).length → q_wp (F_X12_sum_L5 rE rS' rP rF (f + 1) (b + 38) (r.2.2.2.2 w)) ν (fun v ρ => v = u.2.2.2.2 w ∧ Md [812] ν ρ ∧ mI ρ 812 (b + 38) = q_i3 (pre ++ u.2.2.2.1).length) := by
  intro g
  induction g with
  | zero => intro f r u ν h; cases h
  | succ g ih =>
    intro f r u ν h hf hV ha
    obtain ⟨m, hm, hm'⟩ := lp_pre (by decide) (by decide) (g + 1) r u h
    have hV1 : q_Ev ν b k ((pre ++ r.2.2.2.1) ++ (m ++ rest)) w := hV.re (by rw [hm]; simp)
    unfold pLp at h
    by_cases e : lxk x r.1 = 43 ∨ lxk x r.1 = 45
    · rw [if_pos e] at h
      obtain ⟨q1, _, h3⟩ := thn_ok h
      obtain ⟨y, hy, h4⟩ := thn_ok h3
      obtain ⟨m2, hm2, hm2'⟩ := lp_pre (x := x) (F := F) (by decide) (by decide) g _ u h4
      have hm2 : u.2.2.2.1 = r.2.2.2.1 ++ tkq x r.1 :: y.2.2.2.1 ++ m2 := hm2
      have et : tkq x r.1 = (3, lxk x r.1) := tkq_s rfl (by rcases e with z | z <;> rw [z] <;> decide)
      have f2 : folP (m2 ++ rest) := by
        rcases hm2' with z | ⟨c, l, hc, z⟩
        · rw [z]; exact hfol.1
        · rw [z]; rcases hc with rfl | rfl <;> exact ⟨nh_of (by decide), nh_of (by decide)⟩
      have emr : m ++ rest = (3, lxk x r.1) :: (y.2.2.2.1 ++ (m2 ++ rest)) := by
        have : m = tkq x r.1 :: y.2.2.2.1 ++ m2 := by
          have := hm.symm.trans hm2
          rw [List.append_assoc] at this
          exact List.append_cancel_left this
        rw [this, et]; simp
      obtain ⟨f, rfl⟩ : ∃ f', f = f' + 1 := ⟨f - 1, by omega⟩
      have go : ∀ y0 : Int32, y0 = (if lxk x r.1 = 43 then 1 else 0) → q_wp (bn (gI 12 44 (some (b + 38))) fun v9 => bn (wI 12 44 (some (b + 38)) (v9 + (1 : Int32))) fun _ => bn (pRc 12 (some (b + 38))) fun b10 => bn (rP b10) fun v11 => if y0 = 0 then F_X12_sum_L58 rE rS' rP rF (F_X12_sum_L5 rE rS' rP rF (f + 1)) (b + 38) ((r.2.2.2.2 w) - v11) else F_X12_sum_L58 rE rS' rP rF (F_X12_sum_L5 rE rS' rP rF (f + 1)) (b + 38) ((r.2.2.2.2 w) + v11)) ν (fun v ρ => v = u.2.2.2.2 w ∧ Md [812] ν ρ ∧ mI ρ 812 (b + 38) = q_i3 (pre ++ u.2.2.2.1).length) := by
        intro y0 ey
        refine e_inc hV1 ha fun ρ hV2 m1 a1 => ?_
        have hV3 : q_Ev ρ b k ((pre ++ r.2.2.2.1 ++ [tkq x r.1]) ++ (y.2.2.2.1 ++ (m2 ++ rest))) w := hV2.re (by rw [emr, et]; simp)
        rw [wp_bn, xpR12 hV3.1, wp_bn]
        refine q_wp_mono (hF _ _ y hy ρ (pre ++ r.2.2.2.1 ++ [tkq x r.1]) (m2 ++ rest) hV3 (by rw [a1]; congr 1; simp <;> omega) f2) ?_
        rintro v σ ⟨rfl, m2', a2⟩
        have nxt : ∀ z, z = cmb (lxk x r.1) (r.2.2.2.2 w) (y.2.2.2.2 w) → q_wp (F_X12_sum_L5 rE rS' rP rF (f + 1) (b + 38) z) σ (fun v ρ => v = u.2.2.2.2 w ∧ Md [812] ν ρ ∧ mI ρ 812 (b + 38) = q_i3 (pre ++ u.2.2.2.1).length) := by
          intro z ez
          rw [ez]
          have ea : q_i3 (pre ++ r.2.2.2.1 ++ [tkq x r.1] ++ y.2.2.2.1).length = q_i3 (pre ++ (r.2.2.2.1 ++ tkq x r.1 :: y.2.2.2.1)).length := by congr 1; simp
          have key := ih f (y.1, y.2.1, r.2.2.1 ++ (y.2.2.1 ++ [- lxk x r.1]), r.2.2.2.1 ++ tkq x r.1 :: y.2.2.2.1, fun w => cmb (lxk x r.1) (r.2.2.2.2 w) (y.2.2.2.2 w)) u σ h4 (by omega) ((hV.md m1).md m2') (a2.trans ea)
          refine q_wp_mono key ?_
          rintro v τ ⟨rfl, m3, a3⟩
          exact ⟨rfl, ((m1.tr m2').tr m3).wk rfl, a3⟩
        unfold F_X12_sum_L58
        rw [wp_ite]
        rcases e with e43 | e45
        · rw [if_pos e43] at ey
          rw [ey, if_neg (by decide)]
          exact nxt _ (by rw [e43]; rfl)
        · rw [if_neg (by rw [e45]; decide)] at ey
          rw [ey, if_pos rfl]
          exact nxt _ (by rw [e45]; rfl)
      unfold F_X12_sum_L5 F_X12_sum_L23
      rw [wp_bn, xpR12 hV.1, wp_bn]
      rcases e with e43 | e45
      · have h43 : (m ++ rest).head? = some (3, 43) := by rw [emr, e43]; rfl
        rw [wp_eq ((e_isNext hV1 ha).1 h43), wp_ite, if_pos (by decide), wp_bn, xpR12 hV.1, wp_bn, wp_eq ((e_isNext hV1 ha).1 h43)]
        exact go 1 (by rw [if_pos e43])
      · have h45 : (m ++ rest).head? = some (3, 45) := by rw [emr, e45]; rfl
        have n43 : nh (m ++ rest) 43 := by rw [emr, e45]; exact nh_of (by decide)
        rw [wp_eq ((e_isNext hV1 ha).2 n43), wp_ite, if_neg (fun z => z rfl), wp_bn, xpR12 hV.1, wp_bn, wp_eq ((e_isNext hV1 ha).1 h45), wp_ite, if_neg (by decide), wp_bn, xpR12 hV.1, wp_bn, wp_eq ((e_isNext hV1 ha).2 n43)]
        exact go 0 (by rw [if_neg (by rw [e45]; decide)])
    · rw [if_neg e] at h
      cases h
      have em : m = [] := by
        have : r.2.2.2.1 ++ [] = r.2.2.2.1 ++ m := by rw [List.append_nil]; exact hm
        exact (List.append_cancel_left this).symm
      rw [em, List.nil_append] at hV1
      unfold F_X12_sum_L5
      rw [wp_bn, xpR12 hV.1, wp_bn, wp_eq ((e_isNext hV1 ha).2 hfol.2.1), wp_ite, if_neg (fun z => z rfl), wp_bn, xpR12 hV.1, wp_bn, wp_eq ((e_isNext hV1 ha).2 hfol.2.2), wp_ite, if_pos rfl, wp_rt]
      exact ⟨rfl, (Md.rf ν).wk rfl, ha⟩
theorem e_prt {b k n d : Nat} {x : q_Lx} {w : Nat → Int32} (hF : ESpec b k w ((R_X12_expr n).2.2.2 (b + 38)) (pFac x (opL x d)) folF) : ESpec b k w ((R_X12_expr (n + 1)).2.2.1 (b + 38)) (pPrt x (opL x d)) folP := by
  intro q t u hu ν pre rest hV ha hfol
  obtain ⟨r, hr, h2⟩ := thn_ok hu
  obtain ⟨m, hm, _⟩ := lp_pre (by decide) (by decide) 61 r u h2
  show q_wp (F_X12_part_B (R_X12_expr n).1 (R_X12_expr n).2.1 (R_X12_expr n).2.2.1 (R_X12_expr n).2.2.2 (b + 38)) ν _
  unfold F_X12_part_B
  rw [wp_bn, xpR12 hV.1, wp_bn]
  refine q_wp_mono (hF q t r hr ν pre (m ++ rest) (hV.re (by rw [hm]; simp)) ha trivial) ?_
  rintro v σ ⟨rfl, m1, a1⟩
  refine q_wp_mono (e_ploop hF hfol 61 99999 r u σ h2 (by omega) (hV.md m1) a1) ?_
  rintro v τ ⟨rfl, m2, a2⟩
  exact ⟨rfl, (m1.tr m2).wk rfl, a2⟩
theorem e_sum {b k n d : Nat} {x : q_Lx} {w : Nat → Int32} (hF : ESpec b k w ((R_X12_expr n).2.2.1 (b + 38)) (pPrt x (opL x d)) folP) : ESpec b k w ((R_X12_expr (n + 1)).2.1 (b + 38)) (pSum x (opL x d)) folS := by
  intro q t u hu ν pre rest hV ha hfol
  obtain ⟨r, hr, h2⟩ := thn_ok hu
  obtain ⟨m, hm, hm'⟩ := lp_pre (by decide) (by decide) 61 r u h2
  have f2 : folP (m ++ rest) := by
    rcases hm' with z | ⟨c, l, hc, z⟩
    · rw [z]; exact hfol.1
    · rw [z]; rcases hc with rfl | rfl <;> exact ⟨nh_of (by decide), nh_of (by decide)⟩
  show q_wp (F_X12_sum_B (R_X12_expr n).1 (R_X12_expr n).2.1 (R_X12_expr n).2.2.1 (R_X12_expr n).2.2.2 (b + 38)) ν _
  unfold F_X12_sum_B
  rw [wp_bn, xpR12 hV.1, wp_bn]
  refine q_wp_mono (hF q t r hr ν pre (m ++ rest) (hV.re (by rw [hm]; simp)) ha f2) ?_
  rintro v σ ⟨rfl, m1, a1⟩
  refine q_wp_mono (e_sloop hF hfol 61 99999 r u σ h2 (by omega) (hV.md m1) a1) ?_
  rintro v τ ⟨rfl, m2, a2⟩
  exact ⟨rfl, (m1.tr m2).wk rfl, a2⟩

theorem e_exp {b k n d : Nat} {x : q_Lx} {w : Nat → Int32} (hF : ESpec b k w ((R_X12_expr n).2.1 (b + 38)) (pSum x (opL x d)) folS) (hE' : ∀ d', d = d' + 1 → ESpec b k w ((R_X12_expr n).1 (b + 38)) (pLv x d').1 folE) : ESpec b k w ((R_X12_expr (n + 1)).1 (b + 38)) (pExp x (opL x d)) folE := by
  intro q t u hu ν pre rest hV ha hfol
  obtain ⟨rc, hrc, hu2⟩ := thn_ok hu
  obtain ⟨r, hr, hrc2⟩ := thn_ok hrc
  obtain ⟨fS, f60, f62, f61, f63⟩ := hfol
  have L104 : ∀ (σ : Mem) (mq : List q_Tok), u.2.2.2.1 = rc.2.2.2.1 ++ mq → Md [812] ν σ → mI σ 812 (b + 38) = q_i3 (pre ++ rc.2.2.2.1).length → q_wp (F_X12_expr_L104 (R_X12_expr n).1 (R_X12_expr n).2.1 (R_X12_expr n).2.2.1 (R_X12_expr n).2.2.2 (b + 38) (rc.2.2.2.2 w)) σ (fun v ρ => v = u.2.2.2.2 w ∧ Md [812] ν ρ ∧ mI ρ 812 (b + 38) = q_i3 (pre ++ u.2.2.2.1).length) := by
    intro σ mq hmq m1 a1
    have hV1 : q_Ev σ b k ((pre ++ rc.2.2.2.1) ++ (mq ++ rest)) w := (hV.md m1).re (by rw [hmq]; simp)
    unfold F_X12_expr_L104
    rw [wp_bn, xpR12 hV1.1, wp_bn]
    by_cases e63 : lxk x rc.1 = 63
    · rw [if_pos e63] at hu2
      unfold pQ at hu2
      cases d with
      | zero => cases hu2
      | succ d =>
        obtain ⟨q1, _, h3⟩ := thn_ok hu2
        obtain ⟨y, hy, h4⟩ := thn_ok h3
        split at h4
        rotate_left
        · cases h4
        rename_i e58
        obtain ⟨q3, _, h5⟩ := thn_ok h4
        obtain ⟨z, hz, h6⟩ := thn_ok h5
        cases h6
        have et : tkq x rc.1 = (3, 63) := tkq_s e63 (by decide)
        have et2 : tkq x y.1 = (3, 58) := tkq_s e58 (by decide)
        have emq : mq = tkq x rc.1 :: (y.2.2.2.1 ++ tkq x y.1 :: z.2.2.2.1) := by
          have : rc.2.2.2.1 ++ tkq x rc.1 :: (y.2.2.2.1 ++ tkq x y.1 :: z.2.2.2.1) = rc.2.2.2.1 ++ mq := hmq
          exact (List.append_cancel_left this).symm
        have h63 : (mq ++ rest).head? = some (3, 63) := by rw [emq, et]; rfl
        rw [wp_eq ((e_isNext hV1 a1).1 h63), wp_ite, if_pos (by decide)]
        refine e_inc hV1 a1 fun ρ hV2 m2 a2 => ?_
        have hV3 : q_Ev ρ b k ((pre ++ rc.2.2.2.1 ++ [tkq x rc.1]) ++ (y.2.2.2.1 ++ (tkq x y.1 :: (z.2.2.2.1 ++ rest)))) w := hV2.re (by rw [emq]; simp)
        rw [wp_bn, xpR12 hV3.1, wp_bn]
        refine q_wp_mono (hE' d rfl _ _ y hy ρ (pre ++ rc.2.2.2.1 ++ [tkq x rc.1]) (tkq x y.1 :: (z.2.2.2.1 ++ rest)) hV3 (by rw [a2]; congr 1; simp <;> omega) (by rw [et2]; exact folE_s (by decide))) ?_
        rintro v1 τ ⟨rfl, m3, a3⟩
        refine e_inc (hV3.md m3) a3 fun ρ2 hV4 m4 a4 => ?_
        have hV5 : q_Ev ρ2 b k ((pre ++ rc.2.2.2.1 ++ [tkq x rc.1] ++ y.2.2.2.1 ++ [tkq x y.1]) ++ (z.2.2.2.1 ++ rest)) w := hV4.re (by simp)
        rw [wp_bn, xpR12 hV5.1, wp_bn]
        refine q_wp_mono (hE' d rfl _ _ z hz ρ2 (pre ++ rc.2.2.2.1 ++ [tkq x rc.1] ++ y.2.2.2.1 ++ [tkq x y.1]) rest hV5 (by rw [a4]; congr 1; simp <;> omega) ⟨fS, f60, f62, f61, f63⟩) ?_
        rintro v2 τ2 ⟨rfl, m5, a5⟩
        have mA := ((((m1.tr m2).tr m3).tr m4).tr m5).wk (T := [812]) rfl
        have fin : mI τ2 812 (b + 38) = q_i3 (pre ++ (rc.2.2.2.1 ++ tkq x rc.1 :: (y.2.2.2.1 ++ tkq x y.1 :: z.2.2.2.1))).length := by
          rw [a5]; congr 1; simp
        rw [wp_ite]
        by_cases h0 : rc.2.2.2.2 w = 0
        · rw [if_pos h0, wp_rt]
          exact ⟨by show _ = if rc.2.2.2.2 w = 0 then _ else _; rw [if_pos h0], mA, fin⟩
        · rw [if_neg h0, wp_rt]
          exact ⟨by show _ = if rc.2.2.2.2 w = 0 then _ else _; rw [if_neg h0], mA, fin⟩
    · rw [if_neg e63] at hu2
      cases hu2
      have em : mq = [] := by
        have : u.2.2.2.1 ++ [] = u.2.2.2.1 ++ mq := by rw [List.append_nil]; exact hmq
        exact (List.append_cancel_left this).symm
      rw [em, List.nil_append] at hV1
      rw [wp_eq ((e_isNext hV1 a1).2 f63), wp_ite, if_neg (fun z => z rfl), wp_rt]
      exact ⟨rfl, m1, a1⟩
  obtain ⟨mq, hmq, hmq'⟩ : ∃ mq, u.2.2.2.1 = rc.2.2.2.1 ++ mq ∧ (mq = [] ∨ ∃ l, mq = (3, 63) :: l) := by
    split at hu2
    · rename_i e63
      unfold pQ at hu2
      cases d with
      | zero => cases hu2
      | succ d =>
        obtain ⟨q1, _, h3⟩ := thn_ok hu2
        obtain ⟨y, hy, h4⟩ := thn_ok h3
        split at h4
        rotate_left
        · cases h4
        obtain ⟨q3, _, h5⟩ := thn_ok h4
        obtain ⟨z, hz, h6⟩ := thn_ok h5
        cases h6
        exact ⟨_, rfl, Or.inr ⟨_, by rw [tkq_s e63 (by decide)]⟩⟩
    · cases hu2; exact ⟨[], by simp, Or.inl rfl⟩
  show q_wp (F_X12_expr_B (R_X12_expr n).1 (R_X12_expr n).2.1 (R_X12_expr n).2.2.1 (R_X12_expr n).2.2.2 (b + 38)) ν _
  unfold F_X12_expr_B
  rw [wp_bn, xpR12 hV.1, wp_bn]
  have nq : ∀ c : Int32, c ≠ 63 → nh rest c → nh (mq ++ rest) c := by
    intro c hc hr
    rcases hmq' with z | ⟨l, z⟩
    · rw [z]; exact hr
    · rw [z]; exact nh_of (fun y => hc (by injection y with _ y; exact y.symm))
  by_cases e : lxk x r.1 = 60 ∨ lxk x r.1 = 62 ∨ lxk x r.1 = 61
  · rw [if_pos e] at hrc2
    obtain ⟨q1, _, h3⟩ := thn_ok hrc2
    obtain ⟨y, hy, h4⟩ := thn_ok h3
    cases h4
    have hk3 : rkk (lxk x r.1) = 3 := by rcases e with z | z | z <;> rw [z] <;> decide
    have et : tkq x r.1 = (3, lxk x r.1) := tkq_s rfl hk3
    have hmq : u.2.2.2.1 = (r.2.2.2.1 ++ tkq x r.1 :: y.2.2.2.1) ++ mq := hmq
    have f1 : folS (tkq x r.1 :: (y.2.2.2.1 ++ (mq ++ rest))) := by
      rw [et]
      have : ∀ c : Int32, lxk x r.1 ≠ c → nh ((3, lxk x r.1) :: (y.2.2.2.1 ++ (mq ++ rest))) c := fun c hc => nh_of (fun z => hc (by injection z))
      refine ⟨⟨this 42 ?_, this 47 ?_⟩, this 43 ?_, this 45 ?_⟩ <;> rcases e with z | z | z <;> rw [z] <;> decide
    have f2 : folS (mq ++ rest) := ⟨⟨nq 42 (by decide) fS.1.1, nq 47 (by decide) fS.1.2⟩, nq 43 (by decide) fS.2.1, nq 45 (by decide) fS.2.2⟩
    refine q_wp_mono (hF _ _ r hr ν pre (tkq x r.1 :: (y.2.2.2.1 ++ (mq ++ rest))) (hV.re (by rw [hmq]; simp)) ha f1) ?_
    rintro v σ ⟨rfl, m1, a1⟩
    have hV1 : q_Ev σ b k ((pre ++ r.2.2.2.1) ++ (tkq x r.1 :: (y.2.2.2.1 ++ (mq ++ rest)))) w := (hV.md m1).re (by rw [hmq]; simp)
    have L32 : q_wp (F_X12_expr_L32 (R_X12_expr n).1 (R_X12_expr n).2.1 (R_X12_expr n).2.2.1 (R_X12_expr n).2.2.2 (b + 38) (r.2.2.2.2 w)) σ (fun v ρ => v = u.2.2.2.2 w ∧ Md [812] ν ρ ∧ mI ρ 812 (b + 38) = q_i3 (pre ++ u.2.2.2.1).length) := by
      obtain ⟨hK, h2, h3, h4, h5, h6, h7⟩ := id hV1
      have hlen : (pre ++ r.2.2.2.1).length < ((pre ++ r.2.2.2.1) ++ (tkq x r.1 :: (y.2.2.2.1 ++ (mq ++ rest)))).length := by simp
      obtain ⟨_, g2⟩ := h6 _ hlen
      have eg : ((pre ++ r.2.2.2.1) ++ (tkq x r.1 :: (y.2.2.2.1 ++ (mq ++ rest)))).getD (pre ++ r.2.2.2.1).length (0, 0) = (3, lxk x r.1) := by rw [et]; simp
      rw [eg] at g2
      unfold F_X12_expr_L32
      rw [wp_bn, xgP12_8 hK, wp_bn, xgI12 hK, show mI σ (64 * 12 + 45) (b + 38) = q_i3 k from h2, wp_bn, xgI12 hK, show mI σ (64 * 12 + 44) (b + 38) = q_i3 (pre ++ r.2.2.2.1).length from a1, i3m60, i3_add, wp_bn, xl200 hK, inA_i3 (by omega), i3_toNat (by omega), g2]
      refine ⟨by omega, ?_⟩
      refine e_inc hV1 a1 fun ρ hV2 m2 a2 => ?_
      have hV3 : q_Ev ρ b k ((pre ++ r.2.2.2.1 ++ [tkq x r.1]) ++ (y.2.2.2.1 ++ (mq ++ rest))) w := hV2.re (by simp)
      rw [wp_bn, xpR12 hV3.1, wp_bn]
      refine q_wp_mono (hF _ _ y hy ρ (pre ++ r.2.2.2.1 ++ [tkq x r.1]) (mq ++ rest) hV3 (by rw [a2]; congr 1; simp <;> omega) f2) ?_
      rintro v2 τ ⟨rfl, m3, a3⟩
      have nxt : ∀ z : Int32, z = cmb (lxk x r.1) (r.2.2.2.2 w) (y.2.2.2.2 w) → q_wp (F_X12_expr_L104 (R_X12_expr n).1 (R_X12_expr n).2.1 (R_X12_expr n).2.2.1 (R_X12_expr n).2.2.2 (b + 38) z) τ (fun v ρ => v = u.2.2.2.2 w ∧ Md [812] ν ρ ∧ mI ρ 812 (b + 38) = q_i3 (pre ++ u.2.2.2.1).length) := by
        intro z ez
        rw [ez]
        refine L104 τ mq hmq (((m1.tr m2).tr m3).wk rfl) ?_
        rw [a3]; congr 1; simp
      unfold F_X12_expr_L102 F_X12_expr_L98 F_X12_expr_L103
      rw [wp_ite]
      rcases e with z | z | z
      · rw [if_neg (fun y => y z), wp_ite]
        have c : cmb (lxk x r.1) (r.2.2.2.2 w) (y.2.2.2.2 w) = if y.2.2.2.2 w ≤ r.2.2.2.2 w then 0 else 1 := by rw [z]; rfl
        split
        · rename_i hle; exact nxt 0 (by rw [c, if_pos hle])
        · rename_i hle; exact nxt 1 (by rw [c, if_neg hle])
      · rw [if_pos (by rw [z]; decide), wp_ite, if_neg (fun y => y z), wp_ite]
        have c : cmb (lxk x r.1) (r.2.2.2.2 w) (y.2.2.2.2 w) = if r.2.2.2.2 w ≤ y.2.2.2.2 w then 0 else 1 := by rw [z]; rfl
        split
        · rename_i hle; exact nxt 0 (by rw [c, if_pos hle])
        · rename_i hle; exact nxt 1 (by rw [c, if_neg hle])
      · rw [if_pos (by rw [z]; decide), wp_ite, if_pos (by rw [z]; decide), wp_ite]
        have c : cmb (lxk x r.1) (r.2.2.2.2 w) (y.2.2.2.2 w) = if r.2.2.2.2 w = y.2.2.2.2 w then 1 else 0 := by rw [z]; rfl
        by_cases heq : r.2.2.2.2 w = y.2.2.2.2 w
        · rw [if_neg (fun y => y heq)]; exact nxt 1 (by rw [c, if_pos heq])
        · rw [if_pos heq]; exact nxt 0 (by rw [c, if_neg heq])
    have hd : ∀ c : Int32, lxk x r.1 = c → (tkq x r.1 :: (y.2.2.2.1 ++ (mq ++ rest))).head? = some (3, c) := fun c hc => by rw [et, hc]; rfl
    have hn : ∀ c : Int32, lxk x r.1 ≠ c → nh (tkq x r.1 :: (y.2.2.2.1 ++ (mq ++ rest))) c := fun c hc => by rw [et]; exact nh_of (fun z => hc (by injection z))
    rw [wp_bn, xpR12 hV1.1, wp_bn]
    by_cases e1 : lxk x r.1 = 60
    · rw [wp_eq ((e_isNext hV1 a1).1 (hd 60 e1)), wp_ite, if_pos (by decide)]; exact L32
    rw [wp_eq ((e_isNext hV1 a1).2 (hn 60 e1)), wp_ite, if_neg (fun z => z rfl), wp_bn, xpR12 hV1.1, wp_bn]
    by_cases e2 : lxk x r.1 = 62
    · rw [wp_eq ((e_isNext hV1 a1).1 (hd 62 e2)), wp_ite, if_pos (by decide)]; exact L32
    rw [wp_eq ((e_isNext hV1 a1).2 (hn 62 e2)), wp_ite, if_neg (fun z => z rfl), wp_bn, xpR12 hV1.1, wp_bn]
    have e3 : lxk x r.1 = 61 := (e.resolve_left e1).resolve_left e2
    rw [wp_eq ((e_isNext hV1 a1).1 (hd 61 e3)), wp_ite, if_neg (by decide)]; exact L32
  · rw [if_neg e] at hrc2
    cases hrc2
    have f2 : folS (mq ++ rest) := ⟨⟨nq 42 (by decide) fS.1.1, nq 47 (by decide) fS.1.2⟩, nq 43 (by decide) fS.2.1, nq 45 (by decide) fS.2.2⟩
    refine q_wp_mono (hF _ _ rc hr ν pre (mq ++ rest) (hV.re (by rw [hmq]; simp)) ha f2) ?_
    rintro v σ ⟨rfl, m1, a1⟩
    have hV1 : q_Ev σ b k ((pre ++ rc.2.2.2.1) ++ (mq ++ rest)) w := (hV.md m1).re (by rw [hmq]; simp)
    rw [wp_bn, xpR12 hV1.1, wp_bn, wp_eq ((e_isNext hV1 a1).2 (nq 60 (by decide) f60)), wp_ite, if_neg (fun z => z rfl), wp_bn, xpR12 hV1.1, wp_bn, wp_eq ((e_isNext hV1 a1).2 (nq 62 (by decide) f62)), wp_ite, if_neg (fun z => z rfl), wp_bn, xpR12 hV1.1, wp_bn, wp_eq ((e_isNext hV1 a1).2 (nq 61 (by decide) f61)), wp_ite, if_pos rfl]
    exact L104 σ mq hmq m1 a1
theorem e_lv {b k L : Nat} {tp : Nat → Int32} {x : q_Lx} {w : Nat → Int32} (hx : x = lexOf tp L) : ∀ d, (∀ n, 4 * d + 1 ≤ n → ESpec b k w ((R_X12_expr n).2.2.2 (b + 38)) (pLv x d).2 folF) ∧ ∀ n, 4 * d + 4 ≤ n → ESpec b k w ((R_X12_expr n).1 (b + 38)) (pLv x d).1 folE := by
  intro d
  induction d with
  | zero =>
    have fac : ∀ n, 1 ≤ n → ESpec b k w ((R_X12_expr n).2.2.2 (b + 38)) (pFac x (opL x 0)) folF := by
      intro n hn
      obtain ⟨m, rfl⟩ : ∃ m, n = m + 1 := ⟨n - 1, by omega⟩
      exact e_fac hx (fun d' h => by omega) (fun d' h => by omega)
    refine ⟨fun n hn => by rw [lv2]; exact fac n (by omega), fun n hn => ?_⟩
    rw [lv1]
    obtain ⟨m, rfl⟩ : ∃ m, n = m + 3 := ⟨n - 3, by omega⟩
    exact e_exp (e_sum (e_prt (fac m (by omega)))) (fun d' h => by omega)
  | succ d ih =>
    obtain ⟨i1, i2⟩ := ih
    have fac : ∀ n, 4 * (d + 1) + 1 ≤ n → ESpec b k w ((R_X12_expr n).2.2.2 (b + 38)) (pFac x (opL x (d + 1))) folF := by
      intro n hn
      obtain ⟨m, rfl⟩ : ∃ m, n = m + 1 := ⟨n - 1, by omega⟩
      exact e_fac hx (fun d' h => by cases h; exact i1 _ (by omega)) (fun d' h => by cases h; exact i2 _ (by omega))
    refine ⟨fun n hn => by rw [lv2]; exact fac n (by omega), fun n hn => ?_⟩
    rw [lv1]
    obtain ⟨m, rfl⟩ : ∃ m, n = m + 3 := ⟨n - 3, by omega⟩
    exact e_exp (e_sum (e_prt (fac m (by omega)))) (fun d' h => by cases h; exact i2 _ (by omega))
theorem DenR.of {μ : Mem} {b k L q : Nat} {tp : Nat → Int32} {r : q_Pr} (hk : k < 30) (hr : (pLv (lexOf tp L) 12).1 q 0 = .ok r) (h184 : aI μ 184 (b + 42) k = q_i3 r.2.2.2.1.length) (h60 : r.2.2.2.1.length ≤ 60) (ht : ∀ i, i < r.2.2.2.1.length → aI μ 192 (b + 43) (60 * k + i) = (r.2.2.2.1.getD i (0, 0)).1 ∧ aI μ 200 (b + 44) (60 * k + i) = (r.2.2.2.1.getD i (0, 0)).2) : DenR μ b k r.2.2.2.2 := by
  intro ν hK e184 et e813 e812
  have hV : q_Ev ν b k ([] ++ (r.2.2.2.1 ++ [])) (q_w6 (aI ν 352 (b + 63))) := by
    rw [List.nil_append, List.append_nil]
    refine ⟨hK, e813, hk, by rw [e184]; exact h184, h60, fun i hi => ?_, fun j hj => by unfold q_w6; rw [if_pos hj]⟩
    obtain ⟨a1, a2⟩ := et i (by omega)
    rw [a1, a2]; exact ht i hi
  refine q_wp_mono ((e_lv (w := q_w6 (aI ν 352 (b + 63))) rfl 12).2 100 (by omega) q 0 r hr ν [] [] hV (by rw [e812]; rfl) ?_) ?_
  · exact ⟨⟨⟨by simp [nh], by simp [nh]⟩, by simp [nh], by simp [nh]⟩, by simp [nh], by simp [nh], by simp [nh], by simp [nh]⟩
  · rintro v ρ ⟨rfl, m, _⟩
    exact ⟨rfl, m⟩

def RRS : List Nat := [804, 805, 806, 807, 770, 771, 810, 811, 809, 2192, 2200, 2168, 2176, 2184]
def Fk (b k : Nat) (μ ν : Mem) : Prop := Md RRS μ ν ∧ (∀ i, i < 60 * k → aI ν 192 (b + 43) i = aI μ 192 (b + 43) i ∧ aI ν 200 (b + 44) i = aI μ 200 (b + 44) i) ∧ ∀ j, j < k → aI ν 168 (b + 40) j = aI μ 168 (b + 40) j ∧ aI ν 176 (b + 41) j = aI μ 176 (b + 41) j ∧ aI ν 184 (b + 42) j = aI μ 184 (b + 42) j
theorem Fk.rf (b k : Nat) (μ : Mem) : Fk b k μ μ := ⟨(Md.rf μ).wk rfl, fun _ _ => ⟨rfl, rfl⟩, fun _ _ => ⟨rfl, rfl, rfl⟩⟩
theorem Fk.tr {b k : Nat} {μ ν ρ : Mem} (h : Fk b k μ ν) (g : Fk b k ν ρ) : Fk b k μ ρ := ⟨(h.1.tr g.1).wk rfl, fun i hi => ⟨(g.2.1 i hi).1.trans (h.2.1 i hi).1, (g.2.1 i hi).2.trans (h.2.1 i hi).2⟩, fun j hj => ⟨(g.2.2 j hj).1.trans (h.2.2 j hj).1, (g.2.2 j hj).2.1.trans (h.2.2 j hj).2.1, (g.2.2 j hj).2.2.trans (h.2.2 j hj).2.2⟩⟩
theorem Fk.le {b k k' : Nat} {μ ν : Mem} (h : Fk b k μ ν) (hk : k' ≤ k) : Fk b k' μ ν := ⟨h.1, fun i hi => h.2.1 i (by omega), fun j hj => h.2.2 j (by omega)⟩
theorem Fk.of {S : List Nat} {b k : Nat} {μ ν : Mem} (m : Md S μ ν) (h1 : subL S RRS = true) (h2 : disj [2192, 2200, 2168, 2176, 2184] S = true) : Fk b k μ ν := ⟨m.wk h1, fun i _ => ⟨by rw [m.1.ai 192 (disj_nc h2 (by decide))], by rw [m.1.ai 200 (disj_nc h2 (by decide))]⟩, fun j _ => ⟨by rw [m.1.ai 168 (disj_nc h2 (by decide))], by rw [m.1.ai 176 (disj_nc h2 (by decide))], by rw [m.1.ai 184 (disj_nc h2 (by decide))]⟩⟩
theorem Fk.fp {b k : Nat} {μ ν : Mem} (f : Fp b k μ ν) : Fk b k μ ν := ⟨f.1.wk rfl, f.2, fun j _ => ⟨by rw [f.1.1.ai 168 rfl], by rw [f.1.1.ai 176 rfl], by rw [f.1.1.ai 184 rfl]⟩⟩
theorem EnvR.fk {b k L : Nat} {tp : Nat → Int32} {μ ν : Mem} (h : EnvR μ b tp L) (f : Fk b k μ ν) : EnvR ν b tp L := h.md f.1 rfl
def wRd (μ : Mem) (b : Nat) (x : q_Lx) (L k q : Nat) : Prop := rTok μ b x q ∧ q ≤ L ∧ mI μ 809 (b + 38) = q_i3 k ∧ mI μ 770 (b + 38) = 0 ∧ mI μ 771 (b + 38) = 0
def flE (x : q_Lx) (c : Int32) (q : Nat) : q_Er := if lxk x q = -1 then (1, lxf x q) else (c, lxf x q)
theorem wRd.fr {S : List Nat} {μ ν : Mem} {b L k q : Nat} {x : q_Lx} (h : wRd μ b x L k q) (f : q_Fr S μ ν) (hS : disj [804, 805, 806, 807, 809, 770, 771] S = true) : wRd ν b x L k q := by
  obtain ⟨⟨t1, t2, t3, t4⟩, h2, h3, h4, h5⟩ := h
  exact ⟨⟨by rw [f.i 804 (disj_nc hS (by decide))]; exact t1, by rw [f.i 805 (disj_nc hS (by decide))]; exact t2, by rw [f.i 806 (disj_nc hS (by decide))]; exact t3, by rw [f.i 807 (disj_nc hS (by decide))]; exact t4⟩, h2, by rw [f.i 809 (disj_nc hS (by decide))]; exact h3, by rw [f.i 770 (disj_nc hS (by decide))]; exact h4, by rw [f.i 771 (disj_nc hS (by decide))]; exact h5⟩
theorem rkk4' {c : Int32} : rkk c = 4 ↔ c = -1 := ⟨fun h => Classical.byContradiction fun z => rkk4 z h, fun h => by rw [h]; decide⟩
theorem w_fail {b L k q : Nat} {tp : Nat → Int32} {x : q_Lx} {μ : Mem} {c : Int32} (hE : EnvR μ b tp L) (h : wRd μ b x L k q) : q_wp (bn (pRc 12 (some (b + 38))) fun b1 => bn (F_X12_fails b1 c) fun v => rz v) μ (fun v ν => v = 0 ∧ Fk b k μ ν ∧ RFl ν b (flE x c q)) := by
  obtain ⟨⟨t1, t2, t3, t4⟩, h2, h3, h4, h5⟩ := h
  rw [wp_bn, xpR12 hE.1, wp_bn]
  refine q_wp_mono (r_fails hE.1 h4 t1) ?_
  rintro v ν ⟨rfl, m, f⟩
  rw [wp_rz0]
  refine ⟨rfl, Fk.of m rfl rfl, ?_⟩
  unfold flE
  by_cases e : lxk x q = -1
  · rw [if_pos (by rw [t3]; exact rkk4'.mpr e)] at f
    rw [if_pos e]; exact f
  · rw [if_neg (by rw [t3]; exact fun z => e (rkk4'.mp z))] at f
    rw [if_neg e]; exact f
theorem w_next {b L k q : Nat} {tp : Nat → Int32} {x : q_Lx} {μ : Mem} {K : M Int32} {Q : Int32 → Mem → Prop} (hx : x = lexOf tp L) (hE : EnvR μ b tp L) (h : wRd μ b x L k q) (hQ : ∀ ν, EnvR ν b tp L → Md NXS μ ν → wRd ν b x L k (lxn x q) → q_wp K ν Q) : q_wp (bn (pRc 12 (some (b + 38))) fun b1 => bn (F_X12_next b1) fun _ => K) μ Q := by
  subst hx
  obtain ⟨⟨t1, t2, t3, t4⟩, h2, h3, h4, h5⟩ := h
  rw [wp_bn, xpR12 hE.1, wp_bn]
  have hn := ((lex_ok tp L).2 q h2).1
  refine q_wp_mono (r_next hE hn t2) ?_
  rintro _ ν ⟨m, T⟩
  exact hQ ν (hE.md m rfl) m ⟨T, hn, by rw [m.1.i 809 rfl]; exact h3, by rw [m.1.i 770 rfl]; exact h4, by rw [m.1.i 771 rfl]; exact h5⟩
theorem adE_fl {x : q_Lx} {q : Nat} {α : Type} {c : Int32} {p : Nat → Prop} [∀ q, Decidable (p q)] {g : Nat → Except q_Er α} (hp : ∀ q, p q → lxk x q ≠ -1) : (thn (adE x q) fun q1 => if p q1 then g q1 else .error (c, lxf x q1)) = if p (lxn x q) then g (lxn x q) else .error (flE x c (lxn x q)) := by
  unfold adE flE
  by_cases e : lxk x (lxn x q) = -1
  · rw [if_pos e, if_pos e, if_neg (fun z => hp _ z e)]; rfl
  · rw [if_neg e, if_neg e]; rfl
theorem rPd_rule {b L k : Nat} {tp : Nat → Int32} {ν : Mem} {e : q_Er} (hE : EnvR ν b tp L) (hP : RPd ν b e) : q_wp (F_X12_readRule (b + 38)) ν (fun v ρ => v = 0 ∧ Fp b k ν ρ ∧ RFl ρ b e) := by
  unfold F_X12_readRule F_X12_readRule_L17
  rw [wp_bn, xgI12 hE.1, show mI ν (64 * 12 + 38) (b + 38) = 4 from hP.2.1, wp_ite, if_pos (by decide)]
  exact PdF_fail ν e hE hP
def ruleIs (μ : Mem) (b k : Nat) (y : Int32 × Int32 × q_Pr) : Prop := aI μ 168 (b + 40) k = y.1 ∧ aI μ 176 (b + 41) k = y.2.1 ∧ DenR μ b k y.2.2.2.2.2.2
theorem r_ruleRead {b L k q : Nat} {tp : Nat → Int32} {x : q_Lx} {μ : Mem} (hx : x = lexOf tp L) (hE : EnvR μ b tp L) (h : wRd μ b x L k q) (hne : lxk x q ≠ -1) (hk30 : k ≤ 30) : q_wp (F_X12_readRule (b + 38)) μ (fun v ν => Fk b k μ ν ∧ (∀ u, pRul x k q = .ok u → v = 1 ∧ wRd ν b x L (k + 1) u.1 ∧ lxk x u.1 ≠ -1 ∧ ruleIs ν b k (u.2.1, u.2.2.1, u.2.2.2)) ∧ ∀ e, pRul x k q = .error e → (v = 0 ∧ RFl ν b e) ∨ (v = 1 ∧ RPd ν b e)) := by
  have hxo : lOK x := by subst hx; exact (lex_ok tp L).1
  have hnn : ∀ q, lxk x q ≠ -1 → ¬ lxk x q < 0 := fun q z => by subst hx; exact lex_nn z
  have h17w : ∀ q, lxk x q < 16 → lxk x q ≠ 17 := fun q z y => by rw [y] at z; exact absurd z (by decide)
  have kd : ∀ ν q, wRd ν b x L k q → mI ν (64 * 12 + 38) (b + 38) = rkk (lxk x q) := fun ν q w => w.1.2.2.1
  have vl : ∀ ν q, wRd ν b x L k q → lxk x q ≠ 17 → lxk x q ≠ -1 → mI ν (64 * 12 + 39) (b + 38) = rvv (lxk x q) (lxv x q) := fun ν q w => w.1.2.2.2
  have bad : ∀ (ν : Mem) (q' : Nat) (c : Int32), EnvR ν b tp L → Fk b k μ ν → wRd ν b x L k q' → pRul x k q = .error (flE x c q') → q_wp (bn (pRc 12 (some (b + 38))) fun b1 => bn (F_X12_fails b1 c) fun v => rz v) ν (fun v ν => Fk b k μ ν ∧ (∀ u, pRul x k q = .ok u → v = 1 ∧ wRd ν b x L (k + 1) u.1 ∧ lxk x u.1 ≠ -1 ∧ ruleIs ν b k (u.2.1, u.2.2.1, u.2.2.2)) ∧ ∀ e, pRul x k q = .error e → (v = 0 ∧ RFl ν b e) ∨ (v = 1 ∧ RPd ν b e)) := by
    intro ν q' c E1 f1 w1 hr
    refine q_wp_mono (w_fail E1 w1) ?_
    rintro v ρ ⟨rfl, f2, g⟩
    refine ⟨f1.tr f2, fun u hu => (by rw [hr] at hu; cases hu), fun e he => ?_⟩
    rw [hr] at he; cases he
    exact Or.inl ⟨rfl, g⟩
  have fl2 : ∀ q' c, lxk x q' ≠ -1 → flE x c q' = (c, lxf x q') := fun q' c z => by unfold flE; rw [if_neg z]
  unfold F_X12_readRule F_X12_readRule_L17 F_X12_readRule_L72 F_X12_readRule_L100 F_X12_readRule_L140
  rw [wp_bn, xgI12 hE.1, kd μ q h, wp_ite]
  by_cases e6 : lxk x q < 6
  rotate_left
  · have er : pRul x k q = .error (flE x 2 q) := by unfold pRul; rw [if_pos e6, fl2 q 2 hne]
    by_cases h2 : rkk (lxk x q) = 2
    · have l16 := (rkk_w hne).mp h2
      obtain ⟨_, _, _, w6', _⟩ := rvv_w (n := lxv x q) l16 (hnn q hne)
      rw [if_neg (fun z => z h2), wp_bn, xgI12 hE.1, vl μ q h (h17w q l16) hne, wp_ite, if_neg (fun z => e6 (w6'.mp z))]
      exact bad μ q 2 hE (Fk.rf _ _ _) h er
    · rw [if_pos h2]; exact bad μ q 2 hE (Fk.rf _ _ _) h er
  have l16 : lxk x q < 16 := by
    rw [Int32.lt_iff_toInt_lt] at e6 ⊢
    have z6 : (6 : Int32).toInt = 6 := rfl
    have z16 : (16 : Int32).toInt = 16 := rfl
    rw [z6] at e6; rw [z16]; omega
  have h2 := (rkk_w hne).mpr l16
  obtain ⟨_, _, _, w6', _⟩ := rvv_w (n := lxv x q) l16 (hnn q hne)
  have ev : rvv (lxk x q) (lxv x q) = lxk x q := by
    unfold rvv; rw [if_neg (fun z => by rw [z] at l16; exact absurd l16 (by decide)), if_pos e6]
  rw [if_neg (fun z => z h2), wp_bn, xgI12 hE.1, vl μ q h (h17w q l16) hne, wp_ite, if_pos (w6'.mpr e6), wp_bn, xgI12 hE.1, show mI μ (64 * 12 + 41) (b + 38) = q_i3 k from h.2.2.1, wp_ite]
  have heq : q_i3 k = 30 ↔ k = 30 := i3_eq (b := 30) (by omega) (by omega)
  by_cases h30 : k = 30
  · have er : pRul x k q = .error (flE x 4 q) := by unfold pRul; rw [if_neg (fun z => z e6), if_pos (by omega), fl2 q 4 hne]
    rw [if_neg (fun z => z (heq.mpr h30))]
    exact bad μ q 4 hE (Fk.rf _ _ _) h er
  have hk : k < 30 := by omega
  rw [if_pos (fun z => h30 (heq.mp z)), wp_bn, xgP12_4 hE.1, wp_bn, xgI12 hE.1, show mI μ (64 * 12 + 41) (b + 38) = q_i3 k from h.2.2.1, wp_bn, xgI12 hE.1, vl μ q h (h17w q l16) hne, ev, wp_bn, xs168 hE.1, inA_i3 (by omega), i3_toNat (by omega)]
  refine ⟨hk, ?_⟩
  have m1 : Md [2168] μ (tI μ 168 (b + 40) k (lxk x q)) := (Md.tI (k := 168) (by rw [hE.1.k 40 168 (by decide)]; omega)).wk rfl
  obtain ⟨μ1, e1⟩ : ∃ μ1, μ1 = tI μ 168 (b + 40) k (lxk x q) := ⟨_, rfl⟩
  have a168 : ∀ j, aI μ1 168 (b + 40) j = if j = k then lxk x q else aI μ 168 (b + 40) j := fun j => by
    rw [e1, aI_tI']
    by_cases z : j = k
    · rw [if_pos z, if_pos ⟨rfl, rfl, z⟩]
    · rw [if_neg z, if_neg (fun y => z y.2.2)]
  rw [← e1] at m1 ⊢
  have E1 := hE.md m1 rfl
  have F1 : Fk b k μ μ1 := ⟨m1.wk rfl, fun i _ => ⟨by rw [m1.1.ai 192 rfl], by rw [m1.1.ai 200 rfl]⟩, fun j hj => ⟨by rw [a168, if_neg (by omega)], by rw [m1.1.ai 176 rfl], by rw [m1.1.ai 184 rfl]⟩⟩
  have e0 : pRul x k q = (thn (adE x q) fun q1 => if lxk x q1 = 12 then thn (adE x q1) fun q2 => if lxk x q2 = 16 ∧ lxv x q2 ≤ 150 then thn (adE x q2) fun q3 => if lxk x q3 = 13 then thn (adE x q3) fun q_q4 => thn ((pLv x 12).1 q_q4 0) fun r => if lxk x r.1 = 59 then thn (adE x r.1) fun q6 => .ok (q6, lxk x q, lxv x q2, r) else .error (2, lxf x r.1) else .error (2, lxf x q3) else .error (2, lxf x q2) else .error (2, lxf x q1)) := by
    unfold pRul; rw [if_neg (fun z => z e6), if_neg (by omega)]
  rw [adE_fl (fun q z => by rw [z]; decide)] at e0
  refine w_next hx E1 (h.fr m1.1 rfl) fun μ2 E2 m2 w2 => ?_
  have F2 := F1.tr (Fk.of (k := k) (b := b) m2 rfl rfl)
  generalize hq1 : lxn x q = q1 at *
  rw [wp_bn, xgI12 E2.1, kd μ2 q1 w2, wp_ite]
  by_cases c12 : lxk x q1 = 12
  rotate_left
  · rw [if_neg c12] at e0
    by_cases h2 : rkk (lxk x q1) = 2
    · have hn1 : lxk x q1 ≠ -1 := fun z => by rw [z] at h2; exact absurd h2 (by decide)
      have l16 := (rkk_w hn1).mp h2
      obtain ⟨_, _, _, _, w6'', _⟩ := rvv_w (n := lxv x q1) l16 (hnn q1 hn1)
      rw [if_neg (fun z => z h2), wp_bn, xgI12 E2.1, vl μ2 q1 w2 (h17w q1 l16) hn1, wp_ite, if_neg (fun z => c12 (w6''.mp z))]
      exact bad μ2 q1 2 E2 F2 w2 e0
    · rw [if_pos h2]; exact bad μ2 q1 2 E2 F2 w2 e0
  rw [if_pos c12, adE_fl (fun q z => by rw [z.1]; decide)] at e0
  have rv12 : rvv (lxk x q1) (lxv x q1) = 6 := by rw [c12]; rfl
  rw [if_neg (fun z => z (by rw [c12]; decide)), wp_bn, xgI12 E2.1, vl μ2 q1 w2 (by rw [c12]; decide) (by rw [c12]; decide), rv12, wp_ite, if_pos rfl]
  refine w_next hx E2 w2 fun μ3 E3 m3 w3 => ?_
  have F3 := F2.tr (Fk.of (k := k) (b := b) m3 rfl rfl)
  generalize hq2 : lxn x q1 = q2 at *
  rw [wp_bn, xgI12 E3.1, kd μ3 q2 w3, wp_ite]
  by_cases c16 : lxk x q2 = 16
  rotate_left
  · rw [if_neg (fun z => c16 z.1)] at e0
    rw [if_pos (fun z => c16 (rkk_n z))]; exact bad μ3 q2 2 E3 F3 w3 e0
  have rv16 : rvv (lxk x q2) (lxv x q2) = lxv x q2 := by unfold rvv; rw [if_pos c16]
  have v3 := vl μ3 q2 w3 (by rw [c16]; decide) (by rw [c16]; decide)
  rw [rv16] at v3
  rw [if_neg (fun z => z (by rw [c16]; decide)), wp_bn, xgI12 E3.1, v3, wp_ite]
  by_cases c150 : lxv x q2 ≤ 150
  rotate_left
  · rw [if_neg (fun z => c150 z.2)] at e0
    rw [if_neg c150]; exact bad μ3 q2 2 E3 F3 w3 e0
  rw [if_pos ⟨c16, c150⟩, adE_fl (fun q z => by rw [z]; decide)] at e0
  rw [if_pos c150, wp_bn, xgP12_5 E3.1, wp_bn, xgI12 E3.1, show mI μ3 (64 * 12 + 41) (b + 38) = q_i3 k from w3.2.2.1, wp_bn, xgI12 E3.1, v3, wp_bn, xs176 E3.1, inA_i3 (by omega), i3_toNat (by omega)]
  refine ⟨hk, ?_⟩
  have m4 : Md [2176] μ3 (tI μ3 176 (b + 41) k (lxv x q2)) := (Md.tI (k := 176) (by rw [E3.1.k 41 176 (by decide)]; omega)).wk rfl
  obtain ⟨μ4, e4⟩ : ∃ μ4, μ4 = tI μ3 176 (b + 41) k (lxv x q2) := ⟨_, rfl⟩
  have a176 : ∀ j, aI μ4 176 (b + 41) j = if j = k then lxv x q2 else aI μ3 176 (b + 41) j := fun j => by
    rw [e4, aI_tI']
    by_cases z : j = k
    · rw [if_pos z, if_pos ⟨rfl, rfl, z⟩]
    · rw [if_neg z, if_neg (fun y => z y.2.2)]
  rw [← e4] at m4 ⊢
  have E4 := E3.md m4 rfl
  have F4 : Fk b k μ μ4 := F3.tr ⟨m4.wk rfl, fun i _ => ⟨by rw [m4.1.ai 192 rfl], by rw [m4.1.ai 200 rfl]⟩, fun j hj => ⟨by rw [m4.1.ai 168 rfl], by rw [a176, if_neg (by omega)], by rw [m4.1.ai 184 rfl]⟩⟩
  refine w_next hx E4 (w3.fr m4.1 rfl) fun μ5 E5 m5 w5 => ?_
  have F5 := F4.tr (Fk.of (k := k) (b := b) m5 rfl rfl)
  generalize hq3 : lxn x q2 = q3 at *
  rw [wp_bn, xgI12 E5.1, kd μ5 q3 w5, wp_ite]
  by_cases c13 : lxk x q3 = 13
  rotate_left
  · rw [if_neg c13] at e0
    by_cases h2 : rkk (lxk x q3) = 2
    · have hn1 : lxk x q3 ≠ -1 := fun z => by rw [z] at h2; exact absurd h2 (by decide)
      have l16 := (rkk_w hn1).mp h2
      obtain ⟨_, _, _, _, _, w7'⟩ := rvv_w (n := lxv x q3) l16 (hnn q3 hn1)
      rw [if_neg (fun z => z h2), wp_bn, xgI12 E5.1, vl μ5 q3 w5 (h17w q3 l16) hn1, wp_ite, if_neg (fun z => c13 (w7'.mp z))]
      exact bad μ5 q3 2 E5 F5 w5 e0
    · rw [if_pos h2]; exact bad μ5 q3 2 E5 F5 w5 e0
  have rv13 : rvv (lxk x q3) (lxv x q3) = 7 := by rw [c13]; rfl
  rw [if_pos c13] at e0
  rw [if_neg (fun z => z (by rw [c13]; decide)), wp_bn, xgI12 E5.1, vl μ5 q3 w5 (by rw [c13]; decide) (by rw [c13]; decide), rv13, wp_ite, if_pos rfl]
  refine w_next hx E5 w5 fun μ6 E6 m6 q_w6 => ?_
  have F6 := F5.tr (Fk.of (k := k) (b := b) m6 rfl rfl)
  have e0' := e0
  generalize hq4 : lxn x q3 = q_q4 at *
  rw [wp_bn, xwI12 E6.1]
  have m7a : Md [810] μ6 (sI μ6 (64 * 12 + 42) (b + 38) 0) := Md.sI (by rw [kk12 E6.1]; omega)
  have E7a := E6.md m7a rfl
  rw [wp_bn, xwI12 E7a.1]
  have m7b : Md [811] (sI μ6 (64 * 12 + 42) (b + 38) 0) (sI (sI μ6 (64 * 12 + 42) (b + 38) 0) (64 * 12 + 43) (b + 38) 0) := Md.sI (by rw [kk12 E7a.1]; omega)
  obtain ⟨μ7, e7⟩ : ∃ μ7, μ7 = sI (sI μ6 (64 * 12 + 42) (b + 38) 0) (64 * 12 + 43) (b + 38) 0 := ⟨_, rfl⟩
  have h810 : mI μ7 810 (b + 38) = q_i3 0 := by rw [e7, mI_sI', if_neg (fun z => absurd z.1 (by omega)), mI_sI', if_pos ⟨rfl, rfl⟩]; rfl
  have h811 : mI μ7 811 (b + 38) = q_i3 (12 - 12) := by rw [e7, mI_sI', if_pos ⟨rfl, rfl⟩]; rfl
  have m7 : Md [810, 811] μ6 μ7 := by rw [e7]; exact (m7a.tr m7b).wk rfl
  rw [← e7]
  have E7 := E6.md m7 rfl
  have F7 := F6.tr (Fk.of (k := k) (b := b) m7 rfl rfl)
  have q_w7 := q_w6.fr m7.1 rfl
  rw [wp_bn, xpR12 E7.1, wp_bn]
  by_cases cb : lxk x q_q4 = -1
  · 
    have er : pRul x k q = .error (1, lxf x q_q4) := by
      rw [e0]; unfold adE; rw [hq4, if_pos cb]; rfl
    have hP : RPd μ7 b (1, lxf x q_q4) := ⟨rfl, by rw [q_w7.1.2.2.1, cb]; decide, q_w7.1.1, q_w7.2.2.2.1⟩
    refine q_wp_mono (pdE b L k tp 96 μ7 _ E7 hP) ?_
    rintro v ν ⟨rfl, f, g⟩
    rw [wp_ite, if_neg (fun z => z rfl), wp_rz0]
    exact ⟨F7.tr (Fk.fp f), fun u hu => (by rw [er] at hu; cases hu), fun e he => (by rw [er] at he; cases he; exact Or.inl ⟨rfl, g⟩)⟩
  have ea4 : adE x q3 = .ok q_q4 := by unfold adE; rw [hq4, if_neg cb]
  rw [ea4, thn_go] at e0
  have S7 : rS μ7 b x L k q_q4 0 (12 - 12) [] := ⟨q_w7.1, cb, q_w7.2.1, q_w7.2.2.1, h810, h811, rfl, by omega, by omega, hk, fun i hi => absurd hi (Nat.not_lt_zero _), q_w7.2.2.2.1, q_w7.2.2.2.2⟩
  have hex := (r_lv (b := b) (k := k) hx hxo 12 (by omega)).2 100 (by omega) μ7 q_q4 0 [] E7 S7
  refine q_wp_mono hex ?_
  rintro v μ8 ⟨f8, g8, g9⟩
  have E8 := E7.fp f8
  have F8 := F7.tr (Fk.fp f8)
  have m8' := f8.1
  have h771 : mI μ8 771 (b + 38) = 0 ∨ ¬ mI μ8 771 (b + 38) = 0 := Classical.em _
  cases hr : (pLv x 12).1 q_q4 0 with
  | error er =>
    rw [hr, thn_er] at e0
    rcases g9 er hr with ⟨rfl, g⟩ | ⟨rfl, hP⟩
    · rw [wp_ite, if_neg (fun z => z rfl), wp_rz0]
      exact ⟨F8, fun u hu => (by rw [e0] at hu; cases hu), fun e he => (by rw [e0] at he; cases he; exact Or.inl ⟨rfl, g⟩)⟩
    · 
      rw [wp_ite, if_pos (by decide), wp_bn, xgP12_6 E8.1, wp_bn, xgI12 E8.1, show mI μ8 (64 * 12 + 41) (b + 38) = q_i3 k by rw [m8'.1.i _ rfl]; exact q_w7.2.2.1, wp_bn, xgI12 E8.1, wp_bn, xs184 E8.1, inA_i3 (by omega), i3_toNat (by omega)]
      refine ⟨hk, ?_⟩
      have m9 : Md [2184] μ8 (tI μ8 184 (b + 42) k (mI μ8 (64 * 12 + 42) (b + 38))) := (Md.tI (k := 184) (by rw [E8.1.k 42 184 (by decide)]; omega)).wk rfl
      obtain ⟨μ9, e9⟩ : ∃ μ9, μ9 = tI μ8 184 (b + 42) k (mI μ8 (64 * 12 + 42) (b + 38)) := ⟨_, rfl⟩
      have a184 : ∀ j, j ≠ k → aI μ9 184 (b + 42) j = aI μ8 184 (b + 42) j := fun j hj => by rw [e9, aI_tI', if_neg (fun y => hj y.2.2)]
      rw [← e9] at m9 ⊢
      have E9 := E8.md m9 rfl
      have F9 : Fk b k μ μ9 := F8.tr ⟨m9.wk rfl, fun i _ => ⟨by rw [m9.1.ai 192 rfl], by rw [m9.1.ai 200 rfl]⟩, fun j hj => ⟨by rw [m9.1.ai 168 rfl], by rw [m9.1.ai 176 rfl], a184 j (by omega)⟩⟩
      have hP9 : RPd μ9 b er := ⟨hP.1, by rw [m9.1.i 806 rfl]; exact hP.2.1, by rw [m9.1.i 804 rfl]; exact hP.2.2.1, by rw [m9.1.i 770 rfl]; exact hP.2.2.2⟩
      rw [wp_bn, xpR12 E9.1, wp_bn, wp_eq (r_isSignP E9.1 hP9.2.1), wp_ite, if_neg (fun z => z rfl)]
      refine q_wp_mono (PdF_fail (k := k) μ9 er E9 hP9) ?_
      rintro v ν ⟨rfl, f, g⟩
      exact ⟨F9.tr (Fk.fp f), fun u hu => (by rw [e0] at hu; cases hu), fun e he => (by rw [e0] at he; cases he; exact Or.inl ⟨rfl, g⟩)⟩
  | ok r =>
    obtain ⟨rfl, S8⟩ := g8 r hr
    rw [List.nil_append] at S8
    rw [hr, thn_go] at e0
    obtain ⟨T8, hne8, hq8, a1, a2, a3, a4, a5, a6, a7, a8, a9⟩ := S8
    rw [wp_ite, if_pos (by decide), wp_bn, xgP12_6 E8.1, wp_bn, xgI12 E8.1, show mI μ8 (64 * 12 + 41) (b + 38) = q_i3 k from a1, wp_bn, xgI12 E8.1, show mI μ8 (64 * 12 + 42) (b + 38) = q_i3 r.2.1 from a2, wp_bn, xs184 E8.1, inA_i3 (by omega), i3_toNat (by omega)]
    refine ⟨hk, ?_⟩
    have m9 : Md [2184] μ8 (tI μ8 184 (b + 42) k (q_i3 r.2.1)) := (Md.tI (k := 184) (by rw [E8.1.k 42 184 (by decide)]; omega)).wk rfl
    obtain ⟨μ9, e9⟩ : ∃ μ9, μ9 = tI μ8 184 (b + 42) k (q_i3 r.2.1) := ⟨_, rfl⟩
    have a184 : ∀ j, aI μ9 184 (b + 42) j = if j = k then q_i3 r.2.1 else aI μ8 184 (b + 42) j := fun j => by
      rw [e9, aI_tI']
      by_cases z : j = k
      · rw [if_pos z, if_pos ⟨rfl, rfl, z⟩]
      · rw [if_neg z, if_neg (fun y => z y.2.2)]
    rw [← e9] at m9 ⊢
    have E9 := E8.md m9 rfl
    have F9 : Fk b k μ μ9 := F8.tr ⟨m9.wk rfl, fun i _ => ⟨by rw [m9.1.ai 192 rfl], by rw [m9.1.ai 200 rfl]⟩, fun j hj => ⟨by rw [m9.1.ai 168 rfl], by rw [m9.1.ai 176 rfl], by rw [a184, if_neg (by omega)]⟩⟩
    have T9 : rTok μ9 b x r.1 := ⟨by rw [m9.1.i 804 rfl]; exact T8.1, by rw [m9.1.i 805 rfl]; exact T8.2.1, by rw [m9.1.i 806 rfl]; exact T8.2.2.1, by rw [m9.1.i 807 rfl]; exact T8.2.2.2⟩
    have w9 : wRd μ9 b x L k r.1 := ⟨T9, hq8, by rw [m9.1.i 809 rfl]; exact a1, by rw [m9.1.i 770 rfl]; exact a9.1, by rw [m9.1.i 771 rfl]; exact a9.2⟩
    rw [wp_bn, xpR12 E9.1, wp_bn, wp_eq (r_isSign E9.1 T9 (by decide)), wp_ite]
    by_cases c59 : lxk x r.1 = 59
    rotate_left
    · rw [if_neg c59] at e0 ⊢
      rw [if_neg (fun z => z rfl)]
      exact bad μ9 r.1 2 E9 F9 w9 (by rw [e0, fl2 r.1 2 hne8])
    rw [if_pos c59] at e0 ⊢
    rw [if_pos (by decide)]
    refine w_next hx E9 w9 fun μ10 E10 m10 w10 => ?_
    have F10 := F9.tr (Fk.of (k := k) (b := b) m10 rfl rfl)
    rw [wp_bn, xgI12 E10.1, show mI μ10 (64 * 12 + 41) (b + 38) = q_i3 k from w10.2.2.1, i3_1, wp_bn, xwI12 E10.1, wp_rz1]
    have m11 : Md [809] μ10 (sI μ10 (64 * 12 + 41) (b + 38) (q_i3 (k + 1))) := Md.sI (by rw [kk12 E10.1]; omega)
    have F11 := F10.tr (Fk.of (k := k) (b := b) m11 rfl rfl)
    have T11 : rTok (sI μ10 (64 * 12 + 41) (b + 38) (q_i3 (k + 1))) b x (lxn x r.1) := ⟨by rw [m11.1.i 804 rfl]; exact w10.1.1, by rw [m11.1.i 805 rfl]; exact w10.1.2.1, by rw [m11.1.i 806 rfl]; exact w10.1.2.2.1, by rw [m11.1.i 807 rfl]; exact w10.1.2.2.2⟩
    refine ⟨F11, fun u hu => ?_, fun e he => ?_⟩
    · rw [e0] at hu
      obtain ⟨q6, h6, h7⟩ := thn_ok hu
      cases h7
      obtain ⟨rfl, hne6⟩ := adE_ok h6
      refine ⟨rfl, ⟨T11, w10.2.1, by rw [mI_sI', if_pos ⟨rfl, rfl⟩], by rw [m11.1.i 770 rfl]; exact w10.2.2.2.1, by rw [m11.1.i 771 rfl]; exact w10.2.2.2.2⟩, hne6, ?_, ?_, ?_⟩
      · show aI _ 168 (b + 40) k = lxk x q
        rw [m11.1.ai 168 rfl, m10.1.ai 168 rfl, m9.1.ai 168 rfl, m8'.1.ai 168 rfl, m7.1.ai 168 rfl, m6.1.ai 168 rfl, m5.1.ai 168 rfl, m4.1.ai 168 rfl, m3.1.ai 168 rfl, m2.1.ai 168 rfl, a168, if_pos rfl]
      · show aI _ 176 (b + 41) k = lxv x q2
        rw [m11.1.ai 176 rfl, m10.1.ai 176 rfl, m9.1.ai 176 rfl, m8'.1.ai 176 rfl, m7.1.ai 176 rfl, m6.1.ai 176 rfl, m5.1.ai 176 rfl, a176, if_pos rfl]
      · show DenR _ b k r.2.2.2.2
        subst hx
        refine DenR.of hk hr ?_ (by omega) fun i hi => ?_
        · rw [m11.1.ai 184 rfl, m10.1.ai 184 rfl, a184, if_pos rfl, a4]
        · rw [m11.1.ai 192 rfl, m10.1.ai 192 rfl, m9.1.ai 192 rfl, m11.1.ai 200 rfl, m10.1.ai 200 rfl, m9.1.ai 200 rfl]
          exact a8 i (by omega)
    · rw [e0] at he
      unfold adE at he
      by_cases cb6 : lxk x (lxn x r.1) = -1
      · rw [if_pos cb6] at he; cases he
        exact Or.inr ⟨rfl, rfl, by rw [T11.2.2.1, cb6]; decide, T11.1, by rw [m11.1.i 770 rfl]; exact w10.2.2.2.1⟩
      · rw [if_neg cb6] at he; cases he
