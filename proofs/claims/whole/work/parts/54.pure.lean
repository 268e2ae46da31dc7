theorem mem_er {l : List Od} (hn : l.Nodup) {k : Nat} (hk : k < l.length) {x : Od} : x ∈ l.eraseIdx k ↔ x ∈ l ∧ x ≠ l.getD k q_o0 := by
  rw [List.mem_eraseIdx_iff_getElem, getD_o hk]
  have hp := List.pairwise_iff_getElem.mp hn
  constructor
  · rintro ⟨i, hi, h1, h2⟩
    refine ⟨by rw [← h2]; exact List.getElem_mem _, fun z => ?_⟩
    rw [← h2] at z
    rcases Nat.lt_trichotomy i k with q | q | q
    · exact hp i k hi hk q z
    · exact h1 q
    · exact hp k i hk hi q z.symm
  · rintro ⟨h1, h2⟩
    obtain ⟨i, hi, e⟩ := List.mem_iff_getElem.mp h1
    exact ⟨i, hi, fun z => h2 (by subst z; exact e.symm), e⟩
theorem Inc.er {l : List Od} (h : Inc l) (k : Nat) : Inc (l.eraseIdx k) := List.Pairwise.sublist (List.eraseIdx_sublist _ _) h
theorem side_nd {os : List Od} {t s : Int32} (h : Inc os) : (q_side os t s).Nodup := List.Pairwise.imp (fun {a b} q z => by rw [z] at q; exact bef_irr q) (side_str h)
theorem sdO_inj {i j : Nat} {s t : Int32} (hi : i < 6) (hj : j < 6) (hs : s = 0 ∨ s = 1) (ht : t = 0 ∨ t = 1) (h : sdO i s = sdO j t) : i = j ∧ s = t := by
  rcases hs with rfl | rfl <;> rcases ht with rfl | rfl <;> simp only [sdO0, sdO1] at h <;> first | exact ⟨by omega, rfl⟩ | omega
theorem sd_lu {μ ν : Mem} {c : Nat} {s : Int32} {l : List Nat} {a : Nat} (u : LU a l c μ ν) : (∀ t r, odAt ν s t r = odAt μ s t r) := by
  intro t r
  unfold odAt
  rw [u.2.1.i 576 rfl, u.2.1.i 577 rfl, u.2.1.i 578 rfl, u.2.1.i 579 rfl]
theorem map_er {α β : Type} (f : α → β) : ∀ (l : List α) (k : Nat), (l.eraseIdx k).map f = (l.map f).eraseIdx k
  | [], _ => by simp
  | a :: l, 0 => by simp
  | a :: l, k + 1 => by simp [map_er f l k]
theorem co_rm {μ ν : Mem} {b i k p c : Nat} {v : q_VO} {s : Int32} (hK : K0 μ b) (h : q_CO μ b v) (hi : i < 6) (hs : s = 0 ∨ s = 1) (hp : p < (q_side v.1 (q_i3 i) s).length) (hk : k < v.1.length) (e : v.1.getD k q_o0 = (q_side v.1 (q_i3 i) s).getD p q_o0) (u : LU (b + sdO i s) ((q_lst μ (b + sdO i s)).eraseIdx p) c μ ν) : q_CO ν b (v.1.eraseIdx k, v.2) := by
  have hsd := h.side hi hs
  obtain ⟨h1, h2, h3, h4, h5⟩ := id h
  have hin : Inc v.1 := h3
  refine ⟨by rw [u.2.1.i 713 rfl]; exact h1, h2, hin.er k, fun x hx => h4 x (List.mem_of_mem_eraseIdx hx), fun j hj t ht => ?_⟩
  obtain ⟨q1, q2, q3⟩ := h5 j hj t ht
  by_cases hjt : sdO j t = sdO i s
  · obtain ⟨rfl, rfl⟩ := sdO_inj hj hi ht hs hjt
    have es : sd ν b j t = (sd μ b j t).eraseIdx p := by
      unfold sd; rw [u.2.2.1, ← map_er]
      apply List.map_congr_left
      intro r _; exact sd_lu u _ r
    rw [es]
    refine ⟨fun r hr => ?_, List.Pairwise.sublist (List.eraseIdx_sublist _ _) q2, fun x => ?_⟩
    · rw [u.2.2.1] at hr
      obtain ⟨z1, z2⟩ := q1 r (List.mem_of_mem_eraseIdx hr)
      rw [u.2.1.k z1 (by omega), u.2.1.i 578 rfl]; exact ⟨rfl, z2⟩
    · rw [hsd] at q3 ⊢
      rw [mem_er (side_nd hin) hp, mem_er hin.nodup hk, e, q3 x]
      constructor
      · exact fun z => ⟨⟨z.1.1, z.2⟩, z.1.2⟩
      · exact fun z => ⟨⟨z.1.1, z.2⟩, z.1.2⟩
  · have el : q_lst ν (b + sdO j t) = q_lst μ (b + sdO j t) := u.2.2.2.1 _ (hK.lo (sdO_lo hj t)) (by omega)
    have es : sd ν b j t = sd μ b j t := by
      unfold sd; rw [el]
      apply List.map_congr_left
      intro r _; exact sd_lu u _ r
    rw [es, el]
    refine ⟨fun r hr => ?_, q2, fun x => ?_⟩
    · obtain ⟨z1, z2⟩ := q1 r hr
      rw [u.2.1.k z1 (by omega), u.2.1.i 578 rfl]; exact ⟨rfl, z2⟩
    · rw [q3 x, mem_er hin.nodup hk, e]
      constructor
      · refine fun z => ⟨⟨z.1, fun w => ?_⟩, z.2⟩
        have := (side_mem.mp (show (q_side v.1 (q_i3 i) s).getD p q_o0 ∈ q_side v.1 (q_i3 i) s by rw [getD_o hp]; exact List.getElem_mem _)).2
        rw [← w, z.2.1, z.2.2] at this
        have e1 := (i3_eq (show j < 2147483648 by omega) (show i < 2147483648 by omega)).mp this.1
        exact hjt (by rw [e1, this.2])
      · exact fun z => ⟨z.1.1, z.2⟩
def q_lastK (p : Nat → Bool) : Nat → Option Nat
  | 0 => none
  | n + 1 => if p n then some n else q_lastK p n
theorem lastK_none {p : Nat → Bool} : ∀ {n : Nat}, q_lastK p n = none → ∀ a, a < n → p a = false
  | 0, _, a, ha => by omega
  | n + 1, h, a, ha => by
    unfold q_lastK at h
    by_cases hp : p n = true
    · rw [if_pos hp] at h; cases h
    · rw [if_neg hp] at h
      by_cases e : a = n
      · rw [e]; simpa using hp
      · exact lastK_none h a (by omega)
theorem lastK_some {p : Nat → Bool} {k : Nat} : ∀ {n : Nat}, q_lastK p n = some k → k < n ∧ p k = true ∧ ∀ a, k < a → a < n → p a = false
  | 0, h => by cases h
  | n + 1, h => by
    unfold q_lastK at h
    by_cases hp : p n = true
    · rw [if_pos hp] at h; cases h; exact ⟨by omega, hp, fun a _ _ => by omega⟩
    · rw [if_neg hp] at h
      obtain ⟨h1, h2, h3⟩ := lastK_some h
      refine ⟨by omega, h2, fun a ha hn => ?_⟩
      by_cases e : a = n
      · rw [e]; simpa using hp
      · exact h3 a ha (by omega)
def q_hitC (os : List Od) (m t : Int32) (k : Nat) : Bool := oM (os.getD k q_o0) == m && oT (os.getD k q_o0) == t
def fCancel (s : q_St) (m t : Int32) : Int32 × q_St := match q_lastK (q_hitC (sO s).1 m t) (sO s).1.length with
  | none => (-1, s)
  | some k => (oL ((sO s).1.getD k q_o0), wO s ((sO s).1.eraseIdx k, (sO s).2))
theorem i3_m1 (k : Nat) : q_i3 k + (-1 : Int32) = q_i3 k - 1 := by rw [Int32.sub_eq_add_neg]
theorem i3_s1 (k : Nat) : q_i3 (k + 1) - 1 = q_i3 k := i3_sub (a := k + 1) (b := 1) (by omega)
theorem r_cancel {μ : Mem} {b c : Nat} {s : q_St} (hK : K0 μ b) (hA : q_AR μ b s) (hI : Iv s c) (m t : Int32) : q_wp (F_X12_cancel (b + 38) m t) μ (fun r ν => r = (fCancel s m t).1 ∧ rOK μ b (fCancel s m t).2 0 ν) := by
  unfold F_X12_cancel
  refine r_start hK hA fun μ hK hA hz => ?_
  obtain ⟨hM, hL, hO, hT, hD, hR, hN, hU, hP⟩ := id hA
  have hl := hI.2.2.1.1
  rw [wp_bn, xgI12 hK, show mI μ (64 * 12 + 21) (b + 38) = q_i3 (sO s).1.length from hO.1]
  have key : ∀ k f, k ≤ (sO s).1.length → k < f → q_lastK (q_hitC (sO s).1 m t) k = q_lastK (q_hitC (sO s).1 m t) (sO s).1.length → q_wp (F_X12_cancel_L12 f (b + 38) m t (q_i3 k - 1)) μ (fun r ν => r = (fCancel s m t).1 ∧ rOK μ b (fCancel s m t).2 0 ν) := by
    intro k
    induction k with
    | zero =>
      intro f _ hf hlast
      obtain ⟨f, rfl⟩ : ∃ g, f = g + 1 := ⟨f - 1, by omega⟩
      unfold F_X12_cancel_L12 fCancel
      rw [wp_ite, if_pos (by decide), wp_rt, ← hlast]
      exact ⟨rfl, rOK.rf hA hz⟩
    | succ k ih =>
      intro f hk hf hlast
      obtain ⟨f, rfl⟩ : ∃ g, f = g + 1 := ⟨f - 1, by omega⟩
      unfold F_X12_cancel_L12 F_X12_cancel_L65
      obtain ⟨g0, g1, g2, g3, g4⟩ := hO.2 k (by omega)
      have b0 : 5 * k < 600 := by omega
      have b2 : 5 * k + 2 < 600 := by omega
      have b4 : 5 * k + 4 < 600 := by omega
      have nn : ¬ q_i3 k < 0 := i3_nn (by omega)
      rw [i3_s1]
      simp (maxSteps := 2000000) (disch := first | assumption | omega | (simp only [K0_sI, K0_sL, K0_tI, K0_tL, K0_nE]; assumption)) only [wp_ite, nn, if_false, wp_bn, xgI11, xgL11, xwI11, xpR11, xgI4, xgL4, xwI4, xpR4, xgI7, xgL7, xwI7, xpR7, xgI12, xgL12, xwI12, xpR12, xgP11_0, xgP11_1, xgP11_2, xgP11_3, xgP11_4, xgP11_5, xgP11_6, xgP11_7, xgP4_0, xl115, xs115, xgP4_9, xl120, xs120, xgP7_0, xgP7_1, xl136, xs136, xgP7_2, xl144, xs144, xgP12_0, xl160, xs160, xgP12_4, xl168, xs168, xgP12_5, xl176, xs176, xgP12_6, xl184, xs184, xgP12_7, xl192, xs192, xgP12_8, xl200, xs200, xgP12_11, xl209, xs209, xgP12_12, xl218, xs218, xgP12_13, xl226, xs226, xgP12_14, xl232, xs232, xgP12_15, xl241, xs241, xgP12_16, xl248, xs248, xgP12_17, xl256, xs256, xgP12_18, xl264, xs264, xgP12_19, xl274, xs274, xgP12_20, xl280, xs280, xgP12_22, xl288, xs288, xgP12_25, xl296, xs296, xgP12_26, xl305, xs305, xgP12_27, xl312, xs312, xgP12_28, xl321, xs321, xgP12_29, xl328, xs328, xgP12_31, xl336, xs336, xgP12_33, xl344, xs344, xgP12_46, xl352, xs352, xgP12_47, xl360, xs360, xgP2_0, xpL2_0, xgP2_1, xpL2_1, xgP2_2, xpL2_2, xgI2, xwZ2, xpR2, xmo, xpL_5, xpL_33, xpL_34, xpL_35, xpL_36, xpL_37, i3m2, i3m4, i3m5, i3m6, i3m7, i3m12, i3m60, i3m72, i3m1600, i3r6, i3p1, i3p2, i3p3, i3p4, i3p5, i3p6, i3p7, i3p8, i3p9, i3p20, i3_add, i3_mul, i3_toNat, inA_i3, i3_lt, i3_le, i3_eq, b0, b2, b4, true_and, g0, g2, g4, i3_m1]
      have step : q_hitC (sO s).1 m t k = false → q_wp (F_X12_cancel_L12 f (b + 38) m t (q_i3 k - 1)) μ (fun r ν => r = (fCancel s m t).1 ∧ rOK μ b (fCancel s m t).2 0 ν) := by
        intro hh
        refine ih f (by omega) (by omega) ?_
        rw [← hlast]; show _ = if q_hitC (sO s).1 m t k then some k else q_lastK _ k
        rw [hh]; rfl
      by_cases e1 : oM ((sO s).1.getD k q_o0) = m
      · rw [if_neg (fun z => z e1)]
        by_cases e2 : oT ((sO s).1.getD k q_o0) = t
        · rw [if_pos e2]
          have hh : q_hitC (sO s).1 m t k = true := by unfold q_hitC; simp only [e1, e2]; simp
          have hs : q_lastK (q_hitC (sO s).1 m t) (sO s).1.length = some k := by
            rw [← hlast]; show (if q_hitC (sO s).1 m t k then some k else _) = _; rw [hh]; rfl
          refine q_wp_mono (r_drop hK hO hl (by omega)) ?_
          rintro _ ν ⟨hO', hC⟩
          rw [wp_rt]
          unfold fCancel
          rw [hs]
          refine ⟨rfl, rOK.of ⟨hM.fr hC.1 rfl, hL.fr hC.1 rfl, hO', hT.fr hC.1 rfl, hD.fr hC.1 rfl, hR.fr hC.1 rfl, hN.fr hC.1 rfl, hU.fr hC.1 rfl, hP.fr hC.1 rfl⟩ hC rfl (by rw [hC.1.i 803 rfl]; exact hz)⟩
        · rw [if_neg e2]; exact step (by unfold q_hitC; simp only [Bool.and_eq_false_iff]; right; simpa using e2)
      · rw [if_pos e1]; exact step (by unfold q_hitC; simp only [Bool.and_eq_false_iff]; left; simpa using e1)
  exact key _ _ (Nat.le_refl _) (by show _ < 100000; omega) rfl

theorem i3_ne_m1 {j : Nat} (h : j < 2147483648) : ¬ q_i3 j = -1 := fun z => by
  have h1 := i3_toInt h; rw [z] at h1
  have : (-1 : Int32).toInt = -1 := rfl
  omega
theorem c_numberAt {μ : Mem} {b i p : Nat} {v : q_VO} {s : Int32} (hK : K0 μ b) (hW : WF μ) (hO : q_CO μ b v) (hi : i < 6) (hs : s = 0 ∨ s = 1) (hp : p < (q_side v.1 (q_i3 i) s).length) : F_X2_numberAt (some (b + sdO i s)) (q_i3 p) μ = some (q_i3 (q_oN ((q_side v.1 (q_i3 i) s).getD p q_o0)), μ) := by
  apply eq_wp
  have k := hK.lo (sdO_lo hi s)
  have hl := co_len hO hi hs
  have hb := (hW.ls k).2.1
  obtain ⟨a1, a2, a3⟩ := co_at hO hi hs hp
  have nn : ¬ q_i3 p < 0 := i3_nn (by omega)
  have hle : ¬ (q_lst μ (b + sdO i s)).length ≤ p := by omega
  unfold F_X2_numberAt
  simp (maxSteps := 2000000) (disch := first | assumption | omega | (simp only [K0_sI, K0_sL, K0_tI, K0_tL, K0_nE]; assumption)) only [wp_ite, nn, if_false, wp_bn, wp_pRc, k, true_and, wp_eq (ls_size hW k), i3m2, i3m4, i3m5, i3m6, i3m7, i3m12, i3m60, i3m72, i3m1600, i3r6, i3p1, i3p2, i3p3, i3p4, i3p5, i3p6, i3p7, i3p8, i3p9, i3p20, i3_add, i3_mul, i3_toNat, inA_i3, i3_lt, i3_le, i3_eq, hle, wp_eq (ls_get hW k (show p < (q_lst μ (b + sdO i s)).length by omega)), wp_cst, a2, wp_gI, wp_rt, Nat.reduceMul, Nat.reduceAdd, a3]
theorem c_numberAt0 {μ : Mem} {r : Option Nat} : F_X2_numberAt r (-1) μ = some (-1, μ) := by
  apply eq_wp
  unfold F_X2_numberAt
  rw [wp_ite, if_pos (by decide), wp_rt]; exact ⟨rfl, rfl⟩
def LT' (l : List Od) (m : Int32) (k : Nat) (z : Int32) : Prop := (z = -1 ∧ ∀ a, a < k → oM (l.getD a q_o0) ≠ m) ∨ (∃ p, p < k ∧ z = q_i3 p ∧ oM (l.getD p q_o0) = m ∧ ∀ a, a < k → oM (l.getD a q_o0) = m → q_oN (l.getD a q_o0) ≤ q_oN (l.getD p q_o0))
theorem c_latestOf {μ : Mem} {b i : Nat} {v : q_VO} {s m : Int32} (hK : K0 μ b) (hW : WF μ) (hO : q_CO μ b v) (hi : i < 6) (hs : s = 0 ∨ s = 1) (hl120 : v.1.length ≤ 120) : q_wp (F_X2_latestOf (some (b + sdO i s)) m) μ (fun z ν => ν = μ ∧ LT' (q_side v.1 (q_i3 i) s) m (q_side v.1 (q_i3 i) s).length z) := by
  have k := hK.lo (sdO_lo hi s)
  have hl := co_len hO hi hs
  have hle := side_le v.1 (q_i3 i) s
  unfold F_X2_latestOf
  refine wp_loop (σ := Int32) (fun f k z => F_X2_latestOf_L4 f (some (b + sdO i s)) m z (q_i3 k)) (q_side v.1 (q_i3 i) s).length (fun k z ν => ν = μ ∧ LT' (q_side v.1 (q_i3 i) s) m k z) _ ?_ ?_ FU 0 (-1) μ (by omega) (by show _ < 100000; omega) ⟨rfl, Or.inl ⟨rfl, fun a ha => by omega⟩⟩
  · rintro f z ν ⟨rfl, h⟩
    show q_wp (F_X2_latestOf_L4 (f + 1) (some (b + sdO i s)) m z (q_i3 (q_side v.1 (q_i3 i) s).length)) ν _
    unfold F_X2_latestOf_L4
    simp (maxSteps := 2000000) (disch := first | assumption | omega | (simp only [K0_sI, K0_sL, K0_tI, K0_tL, K0_nE]; assumption)) only [wp_bn, wp_pRc, k, true_and, wp_eq (ls_size hW k), hl, wp_ite, i3m2, i3m4, i3m5, i3m6, i3m7, i3m12, i3m60, i3m72, i3m1600, i3r6, i3p1, i3p2, i3p3, i3p4, i3p5, i3p6, i3p7, i3p8, i3p9, i3p20, i3_add, i3_mul, i3_toNat, inA_i3, i3_lt, i3_le, i3_eq, Nat.le_refl, if_true, wp_rt]
    exact h
  · rintro f q z ν hq ⟨rfl, h⟩ ih
    show q_wp (F_X2_latestOf_L4 (f + 1) (some (b + sdO i s)) m z (q_i3 q)) ν _
    unfold F_X2_latestOf_L4 F_X2_latestOf_L48
    obtain ⟨a1, a2, a3⟩ := co_at hO hi hs hq
    have a4 : mI ν 576 ((q_lst ν (b + sdO i s)).getD q 0) = oM ((q_side v.1 (q_i3 i) s).getD q q_o0) := by rw [← a1]; rfl
    have hnle : ¬ (q_side v.1 (q_i3 i) s).length ≤ q := by omega
    simp (maxSteps := 2000000) (disch := first | assumption | omega | (simp only [K0_sI, K0_sL, K0_tI, K0_tL, K0_nE]; assumption)) only [wp_bn, wp_pRc, k, true_and, wp_eq (ls_size hW k), hl, wp_ite, i3m2, i3m4, i3m5, i3m6, i3m7, i3m12, i3m60, i3m72, i3m1600, i3r6, i3p1, i3p2, i3p3, i3p4, i3p5, i3p6, i3p7, i3p8, i3p9, i3p20, i3_add, i3_mul, i3_toNat, inA_i3, i3_lt, i3_le, i3_eq, hnle, if_false, wp_eq (ls_get hW k (show q < (q_lst ν (b + sdO i s)).length by omega)), wp_cst, a2, wp_gI, Nat.reduceMul, Nat.reduceAdd, a3, a4]
    have hN : q_oN ((q_side v.1 (q_i3 i) s).getD q q_o0) ≤ 1000 := by
      have := (hO.2.2.2.1 _ (side_mem.mp (show (q_side v.1 (q_i3 i) s).getD q q_o0 ∈ q_side v.1 (q_i3 i) s by rw [getD_o hq]; exact List.getElem_mem _)).1).1
      have := hO.2.1; omega
    by_cases e : oM ((q_side v.1 (q_i3 i) s).getD q q_o0) = m
    · rw [if_neg (fun w => w e)]
      rcases h with ⟨h1, h2⟩ | ⟨p, hp, h1, h2, h3⟩
      · rw [h1, wp_eq c_numberAt0]
        have : ¬ q_i3 (q_oN ((q_side v.1 (q_i3 i) s).getD q q_o0)) ≤ -1 := by
          rw [Int32.le_iff_toInt_le, i3_toInt (by omega)]
          have : (-1 : Int32).toInt = -1 := rfl
          omega
        rw [if_neg this]
        refine ih _ ν ⟨rfl, Or.inr ⟨q, by omega, rfl, e, fun a ha hm => ?_⟩⟩
        by_cases ea : a = q
        · rw [ea]; exact Nat.le_refl _
        · exact absurd hm (h2 a (by omega))
      · have hN2 : q_oN ((q_side v.1 (q_i3 i) s).getD p q_o0) ≤ 1000 := by
          have := (hO.2.2.2.1 _ (side_mem.mp (show (q_side v.1 (q_i3 i) s).getD p q_o0 ∈ q_side v.1 (q_i3 i) s by rw [getD_o (by omega)]; exact List.getElem_mem _)).1).1
          have := hO.2.1; omega
        rw [h1, wp_eq (c_numberAt hK hW hO hi hs (by omega))]
        simp only [i3_le (show q_oN ((q_side v.1 (q_i3 i) s).getD q q_o0) < 2147483648 by omega) (show q_oN ((q_side v.1 (q_i3 i) s).getD p q_o0) < 2147483648 by omega)]
        by_cases hc : q_oN ((q_side v.1 (q_i3 i) s).getD q q_o0) ≤ q_oN ((q_side v.1 (q_i3 i) s).getD p q_o0)
        · rw [if_pos hc]
          refine ih _ ν ⟨rfl, Or.inr ⟨p, by omega, rfl, h2, fun a ha hm => ?_⟩⟩
          by_cases ea : a = q
          · rw [ea]; exact hc
          · exact h3 a (by omega) hm
        · rw [if_neg hc]
          refine ih _ ν ⟨rfl, Or.inr ⟨q, by omega, rfl, e, fun a ha hm => ?_⟩⟩
          by_cases ea : a = q
          · rw [ea]; exact Nat.le_refl _
          · have := h3 a (by omega) hm; omega
    · rw [if_pos e]
      refine ih _ ν ⟨rfl, ?_⟩
      rcases h with ⟨h1, h2⟩ | ⟨p, hp, h1, h2, h3⟩
      · exact Or.inl ⟨h1, fun a ha => by
          by_cases ea : a = q
          · rw [ea]; exact e
          · exact h2 a (by omega)⟩
      · exact Or.inr ⟨p, by omega, h1, h2, fun a ha hm => by
          by_cases ea : a = q
          · rw [ea] at hm; exact absurd hm e
          · exact h3 a (by omega) hm⟩
def nOf (l : List Od) (z : Int32) : Int := if z = -1 then -1 else (q_oN (l.getD z.toNatClampNeg q_o0) : Int)
theorem c_num {μ : Mem} {b i : Nat} {v : q_VO} {s z m : Int32} (hK : K0 μ b) (hW : WF μ) (hO : q_CO μ b v) (hi : i < 6) (hs : s = 0 ∨ s = 1) (hl120 : v.1.length ≤ 120) (h : LT' (q_side v.1 (q_i3 i) s) m (q_side v.1 (q_i3 i) s).length z) : ∃ x : Int32, F_X2_numberAt (some (b + sdO i s)) z μ = some (x, μ) ∧ x.toInt = nOf (q_side v.1 (q_i3 i) s) z := by
  rcases h with ⟨h1, h2⟩ | ⟨p, hp, h1, h2, h3⟩
  · rw [h1]; exact ⟨-1, c_numberAt0, by unfold nOf; rw [if_pos rfl]; rfl⟩
  · rw [h1]
    refine ⟨_, c_numberAt hK hW hO hi hs hp, ?_⟩
    have hle := side_le v.1 (q_i3 i) s
    have hN2 : q_oN ((q_side v.1 (q_i3 i) s).getD p q_o0) ≤ 1000 := by
      have := (hO.2.2.2.1 _ (side_mem.mp (show (q_side v.1 (q_i3 i) s).getD p q_o0 ∈ q_side v.1 (q_i3 i) s by rw [getD_o (by omega)]; exact List.getElem_mem _)).1).1
      have := hO.2.1; omega
    unfold nOf
    rw [if_neg (i3_ne_m1 (by omega)), i3_toInt (by omega), i3_toNat (by omega)]
theorem c_drop72 {μ : Mem} {b c i p k : Nat} {s : q_St} {w : Int32} (hK : K0 μ b) (hW : WF μ) (hA : q_AC μ b s) (hi : i < 6) (hw : w = 0 ∨ w = 1) (hp : p < (q_side (sO s).1 (q_i3 i) w).length) (hk : k < (sO s).1.length) (e : (sO s).1.getD k q_o0 = (q_side (sO s).1 (q_i3 i) w).getD p q_o0) : q_wp (F_X2_dropLatest_L72 (some (b + sdO i w)) (q_i3 p)) μ (fun r ν => r = oL ((sO s).1.getD k q_o0) ∧ cOK μ b (wO s ((sO s).1.eraseIdx k, (sO s).2)) 1 0 ν) := by
  obtain ⟨hM, hL, hO, hT, hD, hR, hN, hU, hP⟩ := id hA
  have kk := hK.lo (sdO_lo hi w)
  have hl := co_len hO hi hw
  have hb := (hW.ls kk).2.1
  obtain ⟨a1, a2, a3⟩ := co_at hO hi hw hp
  have a4 : mI μ 579 ((q_lst μ (b + sdO i w)).getD p 0) = oL ((sO s).1.getD k q_o0) := by rw [e, ← a1]; rfl
  have nn : ¬ q_i3 p < 0 := i3_nn (by omega)
  have hlt : p < (q_lst μ (b + sdO i w)).length := by omega
  unfold F_X2_dropLatest_L72
  simp (maxSteps := 2000000) (disch := first | assumption | omega | (simp only [K0_sI, K0_sL, K0_tI, K0_tL, K0_nE]; assumption)) only [wp_ite, nn, if_false, wp_bn, wp_pRc, kk, true_and, wp_eq (ls_size hW kk), i3m2, i3m4, i3m5, i3m6, i3m7, i3m12, i3m60, i3m72, i3m1600, i3r6, i3p1, i3p2, i3p3, i3p4, i3p5, i3p6, i3p7, i3p8, i3p9, i3p20, i3_add, i3_mul, i3_toNat, inA_i3, i3_lt, i3_le, i3_eq, hlt, if_true, wp_eq (ls_get hW kk hlt), wp_cst, a2, wp_gI, Nat.reduceMul, Nat.reduceAdd, a4, wp_rt]
  refine q_wp_mono (ls_rem hW kk hlt) ?_
  intro _ ν u
  have hC := u.cs hK
  have hno : ∀ o, o ∈ q_LO → o ≠ sdO i w → q_lst ν (b + o) = q_lst μ (b + o) := fun o ho hne => hC.2.2.1 o ho (by simpa using hne)
  have h6 : ∀ j : Fin 6, ∀ k : Fin 6, 12 + 4 * j.1 ≠ 11 + 4 * k.1 ∧ 12 + 4 * j.1 ≠ 10 + 4 * k.1 := by decide
  have hs2 : sdO i w = 11 + 4 * i ∨ sdO i w = 10 + 4 * i := by rcases hw with rfl | rfl; exact Or.inl (sdO0 i); exact Or.inr (sdO1 i)
  refine cOK.of hK ⟨hM.fr hC.2.1 (hno 33 (by decide) (by omega)) rfl, hL.fr hC.2.1 (fun j hj => hno _ (lgO_lo hj) (by omega)) rfl, co_rm hK hO hi hw hp hk e u, hT.fr hC.2.1 (hno 34 (by decide) (by omega)) rfl, hD.fr hC.2.1 (hno 37 (by decide) (by omega)) rfl, hR.fr hC.2.1 (hno 35 (by decide) (by omega)) rfl, hN.fr hC.2.1 (hno 36 (by decide) (by omega)) rfl, hU.fr hC.2.1 (hno 5 (by decide) (by omega)) rfl, hP.fr hC.2.1 rfl⟩ hC rfl rfl
theorem c_cancel {μ : Mem} {b c : Nat} {s : q_St} (hK : K0 μ b) (hW : WF μ) (hA : q_AC μ b s) (hI : Iv s c) (m t : Int32) : q_wp (F_X11_cancel b m t) μ (fun r ν => r = (fCancel s m t).1 ∧ cOK μ b (fCancel s m t).2 1 0 ν) := by
  obtain ⟨hM, hL, hO, hT, hD, hR, hN, hU, hP⟩ := id hA
  have hl := hI.2.2.1.1
  have hinc : Inc (sO s).1 := hO.2.2.1
  unfold F_X11_cancel
  rw [wp_bn, wp_eq c_isMonth, wp_ite]
  have none_ok : q_lastK (q_hitC (sO s).1 m t) (sO s).1.length = none → (-1 : Int32) = (fCancel s m t).1 ∧ cOK μ b (fCancel s m t).2 1 0 μ := by
    intro h; unfold fCancel; rw [h]; exact ⟨rfl, cOK.rf hK hW hA⟩
  by_cases h : q_inR t 6
  · obtain ⟨i, hi, rfl⟩ := inR_i3 h
    rw [if_pos h, if_neg (by decide)]
    unfold F_X2_dropLatest
    obtain ⟨_, _, _, _, k1, k0, _⟩ := hK.mo hi
    rw [wp_bn, xgP11_2 hK, wp_bn, xmo hK hi, wp_bn, xpR2 hK hi]
    simp only [wp_bn, wp_rt]
    rw [xgP2_0 hK hi, ← sdO1]
    refine q_wp_mono (c_latestOf (v := sO s) (s := 1) (m := m) hK hW hO hi (Or.inr rfl) hl) ?_
    rintro z1 _ ⟨rfl, L1⟩
    rw [xgP2_1 hK hi, ← sdO0]
    refine q_wp_mono (c_latestOf (v := sO s) (s := 0) (m := m) hK hW hO hi (Or.inl rfl) hl) ?_
    rintro z0 μ ⟨rfl, L0⟩
    rw [xgP2_0 hK hi, ← sdO1]
    obtain ⟨x1, n1, e1⟩ := c_num hK hW hO hi (Or.inr rfl) hl L1
    obtain ⟨x0, n0, e0⟩ := c_num hK hW hO hi (Or.inl rfl) hl L0
    rw [wp_eq n1, xgP2_1 hK hi, ← sdO0, wp_eq n0, wp_ite]
    simp only [Int32.le_iff_toInt_le, e1, e0]
    unfold F_X2_dropLatest_L42 F_X2_dropLatest_L60
    have hit : ∀ k, k < (sO s).1.length → q_hitC (sO s).1 m (q_i3 i) k = true → ∃ w : Int32, (w = 0 ∨ w = 1) ∧ (sO s).1.getD k q_o0 ∈ q_side (sO s).1 (q_i3 i) w ∧ oM ((sO s).1.getD k q_o0) = m := by
      intro k hk hh
      unfold q_hitC at hh
      simp only [Bool.and_eq_true, beq_iff_eq] at hh
      have hmem : (sO s).1.getD k q_o0 ∈ (sO s).1 := by rw [getD_o hk]; exact List.getElem_mem _
      exact ⟨oB ((sO s).1.getD k q_o0), (hO.2.2.2.1 _ hmem).2.1, side_mem.mpr ⟨hmem, hh.2, rfl⟩, hh.1⟩
    have back : ∀ w : Int32, ∀ p, p < (q_side (sO s).1 (q_i3 i) w).length → oM ((q_side (sO s).1 (q_i3 i) w).getD p q_o0) = m → ∃ k, k < (sO s).1.length ∧ (sO s).1.getD k q_o0 = (q_side (sO s).1 (q_i3 i) w).getD p q_o0 ∧ q_hitC (sO s).1 m (q_i3 i) k = true := by
      intro w p hp hm
      have hmem := side_mem.mp (show (q_side (sO s).1 (q_i3 i) w).getD p q_o0 ∈ q_side (sO s).1 (q_i3 i) w by rw [getD_o hp]; exact List.getElem_mem _)
      obtain ⟨k, hk, ek⟩ := List.mem_iff_getElem.mp hmem.1
      refine ⟨k, hk, by rw [getD_o hk, ek], ?_⟩
      unfold q_hitC
      rw [getD_o hk, ek, hmem.2.1, hm]; simp
    have order : ∀ k j, k < (sO s).1.length → j < (sO s).1.length → (q_oN ((sO s).1.getD k q_o0) < q_oN ((sO s).1.getD j q_o0) ↔ k < j) := by
      intro k j hk hj
      have hp := List.pairwise_iff_getElem.mp hinc
      rw [getD_o hk, getD_o hj]
      constructor
      · intro z
        apply Classical.byContradiction
        intro q
        rcases Nat.lt_or_eq_of_le (Nat.le_of_not_lt q) with q | q
        · have := hp j k hj hk q; omega
        · subst q; omega
      · exact fun z => hp k j hk hj z
    have fin : ∀ w : Int32, (w = 0 ∨ w = 1) → ∀ p, p < (q_side (sO s).1 (q_i3 i) w).length → oM ((q_side (sO s).1 (q_i3 i) w).getD p q_o0) = m → (∀ u : Int32, (u = 0 ∨ u = 1) → ∀ a, a < (q_side (sO s).1 (q_i3 i) u).length → oM ((q_side (sO s).1 (q_i3 i) u).getD a q_o0) = m → q_oN ((q_side (sO s).1 (q_i3 i) u).getD a q_o0) ≤ q_oN ((q_side (sO s).1 (q_i3 i) w).getD p q_o0)) → q_wp (F_X2_dropLatest_L72 (some (b + sdO i w)) (q_i3 p)) μ (fun r ν => r = (fCancel s m (q_i3 i)).1 ∧ cOK μ b (fCancel s m (q_i3 i)).2 1 0 ν) := by
      intro w hw p hp hm hmax
      obtain ⟨k, hk, ek, hh⟩ := back w p hp hm
      have hlast : q_lastK (q_hitC (sO s).1 m (q_i3 i)) (sO s).1.length = some k := by
        cases hl : q_lastK (q_hitC (sO s).1 m (q_i3 i)) (sO s).1.length with
        | none => have := lastK_none hl k hk; rw [hh] at this; cases this
        | some j =>
          obtain ⟨hj, hhj, hjl⟩ := lastK_some hl
          rcases Nat.lt_trichotomy j k with q | q | q
          · have := hjl k q hk; rw [hh] at this; cases this
          · rw [q]
          · obtain ⟨u, hu, hmem, hmj⟩ := hit j hj hhj
            obtain ⟨a, ha, ea⟩ := List.mem_iff_getElem.mp hmem
            have := hmax u hu a ha (by rw [getD_o ha, ea]; exact hmj)
            rw [getD_o ha, ea, ← ek] at this
            have := (order k j hk hj).mpr q
            omega
      unfold fCancel; rw [hlast]
      exact c_drop72 (c := c) hK hW hA hi hw hp hk ek
    have hlen1 := side_le (sO s).1 (q_i3 i) 1
    have hlen0 := side_le (sO s).1 (q_i3 i) 0
    have nofp : ∀ (l : List Od) p, p < 2147483648 → nOf l (q_i3 p) = (q_oN (l.getD p q_o0) : Int) := fun l p hp => by
      unfold nOf; rw [if_neg (i3_ne_m1 hp), i3_toNat hp]
    have nofm : ∀ l : List Od, nOf l (-1) = -1 := fun l => by unfold nOf; rw [if_pos rfl]
    rcases L1 with ⟨f1, f2⟩ | ⟨p1, hp1, f1, f2, f3⟩
    · rcases L0 with ⟨g1, g2⟩ | ⟨p0, hp0, g1, g2, g3⟩
      · rw [f1, g1, if_pos (by rw [nofm, nofm]; omega)]
        simp (maxSteps := 2000000) (disch := first | assumption | omega | (simp only [K0_sI, K0_sL, K0_tI, K0_tL, K0_nE]; assumption)) only [wp_ite, if_true, wp_bn, xgI11, xgL11, xwI11, xpR11, xgI4, xgL4, xwI4, xpR4, xgI7, xgL7, xwI7, xpR7, xgI12, xgL12, xwI12, xpR12, xgP11_0, xgP11_1, xgP11_2, xgP11_3, xgP11_4, xgP11_5, xgP11_6, xgP11_7, xgP4_0, xl115, xs115, xgP4_9, xl120, xs120, xgP7_0, xgP7_1, xl136, xs136, xgP7_2, xl144, xs144, xgP12_0, xl160, xs160, xgP12_4, xl168, xs168, xgP12_5, xl176, xs176, xgP12_6, xl184, xs184, xgP12_7, xl192, xs192, xgP12_8, xl200, xs200, xgP12_11, xl209, xs209, xgP12_12, xl218, xs218, xgP12_13, xl226, xs226, xgP12_14, xl232, xs232, xgP12_15, xl241, xs241, xgP12_16, xl248, xs248, xgP12_17, xl256, xs256, xgP12_18, xl264, xs264, xgP12_19, xl274, xs274, xgP12_20, xl280, xs280, xgP12_22, xl288, xs288, xgP12_25, xl296, xs296, xgP12_26, xl305, xs305, xgP12_27, xl312, xs312, xgP12_28, xl321, xs321, xgP12_29, xl328, xs328, xgP12_31, xl336, xs336, xgP12_33, xl344, xs344, xgP12_46, xl352, xs352, xgP12_47, xl360, xs360, xgP2_0, xpL2_0, xgP2_1, xpL2_1, xgP2_2, xpL2_2, xgI2, xwZ2, xpR2, xmo, xpL_5, xpL_33, xpL_34, xpL_35, xpL_36, xpL_37]
        unfold F_X2_dropLatest_L72
        rw [wp_ite, if_pos (by decide), wp_rt]
        refine none_ok ?_
        cases hl : q_lastK (q_hitC (sO s).1 m (q_i3 i)) (sO s).1.length with
        | none => rfl
        | some j =>
          obtain ⟨hj, hhj, _⟩ := lastK_some hl
          obtain ⟨u, hu, hmem, hmj⟩ := hit j hj hhj
          obtain ⟨a, ha, ea⟩ := List.mem_iff_getElem.mp hmem
          rcases hu with rfl | rfl
          · exact absurd (by rw [getD_o ha, ea]; exact hmj) (g2 a ha)
          · exact absurd (by rw [getD_o ha, ea]; exact hmj) (f2 a ha)
      · rw [f1, g1, if_pos (by rw [nofm, nofp _ _ (by omega)]; omega)]
        simp (maxSteps := 2000000) (disch := first | assumption | omega | (simp only [K0_sI, K0_sL, K0_tI, K0_tL, K0_nE]; assumption)) only [wp_ite, if_true, wp_bn, xgI11, xgL11, xwI11, xpR11, xgI4, xgL4, xwI4, xpR4, xgI7, xgL7, xwI7, xpR7, xgI12, xgL12, xwI12, xpR12, xgP11_0, xgP11_1, xgP11_2, xgP11_3, xgP11_4, xgP11_5, xgP11_6, xgP11_7, xgP4_0, xl115, xs115, xgP4_9, xl120, xs120, xgP7_0, xgP7_1, xl136, xs136, xgP7_2, xl144, xs144, xgP12_0, xl160, xs160, xgP12_4, xl168, xs168, xgP12_5, xl176, xs176, xgP12_6, xl184, xs184, xgP12_7, xl192, xs192, xgP12_8, xl200, xs200, xgP12_11, xl209, xs209, xgP12_12, xl218, xs218, xgP12_13, xl226, xs226, xgP12_14, xl232, xs232, xgP12_15, xl241, xs241, xgP12_16, xl248, xs248, xgP12_17, xl256, xs256, xgP12_18, xl264, xs264, xgP12_19, xl274, xs274, xgP12_20, xl280, xs280, xgP12_22, xl288, xs288, xgP12_25, xl296, xs296, xgP12_26, xl305, xs305, xgP12_27, xl312, xs312, xgP12_28, xl321, xs321, xgP12_29, xl328, xs328, xgP12_31, xl336, xs336, xgP12_33, xl344, xs344, xgP12_46, xl352, xs352, xgP12_47, xl360, xs360, xgP2_0, xpL2_0, xgP2_1, xpL2_1, xgP2_2, xpL2_2, xgI2, xwZ2, xpR2, xmo, xpL_5, xpL_33, xpL_34, xpL_35, xpL_36, xpL_37, ← sdO0]
        refine fin 0 (Or.inl rfl) p0 hp0 g2 fun u hu a ha hm => ?_
        rcases hu with rfl | rfl
        · exact g3 a ha hm
        · exact absurd hm (f2 a ha)
    · rcases L0 with ⟨g1, g2⟩ | ⟨p0, hp0, g1, g2, g3⟩
      · rw [f1, g1, if_neg (by rw [nofm, nofp _ _ (by omega)]; omega)]
        simp (decide := true) only [wp_ite, if_false]
        simp (maxSteps := 2000000) (disch := first | assumption | omega | (simp only [K0_sI, K0_sL, K0_tI, K0_tL, K0_nE]; assumption)) only [wp_bn, xgI11, xgL11, xwI11, xpR11, xgI4, xgL4, xwI4, xpR4, xgI7, xgL7, xwI7, xpR7, xgI12, xgL12, xwI12, xpR12, xgP11_0, xgP11_1, xgP11_2, xgP11_3, xgP11_4, xgP11_5, xgP11_6, xgP11_7, xgP4_0, xl115, xs115, xgP4_9, xl120, xs120, xgP7_0, xgP7_1, xl136, xs136, xgP7_2, xl144, xs144, xgP12_0, xl160, xs160, xgP12_4, xl168, xs168, xgP12_5, xl176, xs176, xgP12_6, xl184, xs184, xgP12_7, xl192, xs192, xgP12_8, xl200, xs200, xgP12_11, xl209, xs209, xgP12_12, xl218, xs218, xgP12_13, xl226, xs226, xgP12_14, xl232, xs232, xgP12_15, xl241, xs241, xgP12_16, xl248, xs248, xgP12_17, xl256, xs256, xgP12_18, xl264, xs264, xgP12_19, xl274, xs274, xgP12_20, xl280, xs280, xgP12_22, xl288, xs288, xgP12_25, xl296, xs296, xgP12_26, xl305, xs305, xgP12_27, xl312, xs312, xgP12_28, xl321, xs321, xgP12_29, xl328, xs328, xgP12_31, xl336, xs336, xgP12_33, xl344, xs344, xgP12_46, xl352, xs352, xgP12_47, xl360, xs360, xgP2_0, xpL2_0, xgP2_1, xpL2_1, xgP2_2, xpL2_2, xgI2, xwZ2, xpR2, xmo, xpL_5, xpL_33, xpL_34, xpL_35, xpL_36, xpL_37, ← sdO1]
        refine fin 1 (Or.inr rfl) p1 hp1 f2 fun u hu a ha hm => ?_
        rcases hu with rfl | rfl
        · exact absurd hm (g2 a ha)
        · exact f3 a ha hm
      · rw [f1, g1, nofp _ _ (by omega), nofp _ _ (by omega)]
        by_cases hc : ((q_oN ((q_side (sO s).1 (q_i3 i) 1).getD p1 q_o0) : Nat) : Int) ≤ (q_oN ((q_side (sO s).1 (q_i3 i) 0).getD p0 q_o0) : Int)
        · rw [if_pos hc]
          simp (maxSteps := 2000000) (disch := first | assumption | omega | (simp only [K0_sI, K0_sL, K0_tI, K0_tL, K0_nE]; assumption)) only [wp_ite, if_true, wp_bn, xgI11, xgL11, xwI11, xpR11, xgI4, xgL4, xwI4, xpR4, xgI7, xgL7, xwI7, xpR7, xgI12, xgL12, xwI12, xpR12, xgP11_0, xgP11_1, xgP11_2, xgP11_3, xgP11_4, xgP11_5, xgP11_6, xgP11_7, xgP4_0, xl115, xs115, xgP4_9, xl120, xs120, xgP7_0, xgP7_1, xl136, xs136, xgP7_2, xl144, xs144, xgP12_0, xl160, xs160, xgP12_4, xl168, xs168, xgP12_5, xl176, xs176, xgP12_6, xl184, xs184, xgP12_7, xl192, xs192, xgP12_8, xl200, xs200, xgP12_11, xl209, xs209, xgP12_12, xl218, xs218, xgP12_13, xl226, xs226, xgP12_14, xl232, xs232, xgP12_15, xl241, xs241, xgP12_16, xl248, xs248, xgP12_17, xl256, xs256, xgP12_18, xl264, xs264, xgP12_19, xl274, xs274, xgP12_20, xl280, xs280, xgP12_22, xl288, xs288, xgP12_25, xl296, xs296, xgP12_26, xl305, xs305, xgP12_27, xl312, xs312, xgP12_28, xl321, xs321, xgP12_29, xl328, xs328, xgP12_31, xl336, xs336, xgP12_33, xl344, xs344, xgP12_46, xl352, xs352, xgP12_47, xl360, xs360, xgP2_0, xpL2_0, xgP2_1, xpL2_1, xgP2_2, xpL2_2, xgI2, xwZ2, xpR2, xmo, xpL_5, xpL_33, xpL_34, xpL_35, xpL_36, xpL_37, ← sdO0]
          refine fin 0 (Or.inl rfl) p0 hp0 g2 fun u hu a ha hm => ?_
          rcases hu with rfl | rfl
          · exact g3 a ha hm
          · have := f3 a ha hm; omega
        · rw [if_neg hc]
          simp (decide := true) only [wp_ite, if_false]
          simp (maxSteps := 2000000) (disch := first | assumption | omega | (simp only [K0_sI, K0_sL, K0_tI, K0_tL, K0_nE]; assumption)) only [wp_bn, xgI11, xgL11, xwI11, xpR11, xgI4, xgL4, xwI4, xpR4, xgI7, xgL7, xwI7, xpR7, xgI12, xgL12, xwI12, xpR12, xgP11_0, xgP11_1, xgP11_2, xgP11_3, xgP11_4, xgP11_5, xgP11_6, xgP11_7, xgP4_0, xl115, xs115, xgP4_9, xl120, xs120, xgP7_0, xgP7_1, xl136, xs136, xgP7_2, xl144, xs144, xgP12_0, xl160, xs160, xgP12_4, xl168, xs168, xgP12_5, xl176, xs176, xgP12_6, xl184, xs184, xgP12_7, xl192, xs192, xgP12_8, xl200, xs200, xgP12_11, xl209, xs209, xgP12_12, xl218, xs218, xgP12_13, xl226, xs226, xgP12_14, xl232, xs232, xgP12_15, xl241, xs241, xgP12_16, xl248, xs248, xgP12_17, xl256, xs256, xgP12_18, xl264, xs264, xgP12_19, xl274, xs274, xgP12_20, xl280, xs280, xgP12_22, xl288, xs288, xgP12_25, xl296, xs296, xgP12_26, xl305, xs305, xgP12_27, xl312, xs312, xgP12_28, xl321, xs321, xgP12_29, xl328, xs328, xgP12_31, xl336, xs336, xgP12_33, xl344, xs344, xgP12_46, xl352, xs352, xgP12_47, xl360, xs360, xgP2_0, xpL2_0, xgP2_1, xpL2_1, xgP2_2, xpL2_2, xgI2, xwZ2, xpR2, xmo, xpL_5, xpL_33, xpL_34, xpL_35, xpL_36, xpL_37, ← sdO1]
          refine fin 1 (Or.inr rfl) p1 hp1 f2 fun u hu a ha hm => ?_
          rcases hu with rfl | rfl
          · have := g3 a ha hm; omega
          · exact f3 a ha hm
  · rw [if_neg h, if_pos rfl, wp_rt]
    refine none_ok ?_
    cases hl : q_lastK (q_hitC (sO s).1 m t) (sO s).1.length with
    | none => rfl
    | some j =>
      obtain ⟨hj, hhj, _⟩ := lastK_some hl
      unfold q_hitC at hhj
      simp only [Bool.and_eq_true, beq_iff_eq] at hhj
      have := (hO.2.2.2.1 _ (show (sO s).1.getD j q_o0 ∈ (sO s).1 by rw [getD_o hj]; exact List.getElem_mem _)).2.2
      rw [hhj.2] at this; exact absurd this h

def offS (os : List Od) (i s : Int32) : List Od := os.filter fun x => ! (oT x == i && oB x == s)
theorem co_clr {μ ν : Mem} {b i c : Nat} {v : q_VO} {s : Int32} (hK : K0 μ b) (h : q_CO μ b v) (hi : i < 6) (hs : s = 0 ∨ s = 1) (u : LU (b + sdO i s) [] c μ ν) : q_CO ν b (offS v.1 (q_i3 i) s, v.2) := by
  obtain ⟨h1, h2, h3, h4, h5⟩ := id h
  have hm : ∀ x, x ∈ offS v.1 (q_i3 i) s ↔ x ∈ v.1 ∧ ¬ (oT x = q_i3 i ∧ oB x = s) := by
    intro x; unfold offS; rw [List.mem_filter]; by_cases e1 : oT x = q_i3 i <;> by_cases e2 : oB x = s <;> simp [e1, e2]
  refine ⟨by rw [u.2.1.i 713 rfl]; exact h1, h2, List.Pairwise.filter _ h3, fun x hx => h4 x ((hm x).mp hx).1, fun j hj t ht => ?_⟩
  obtain ⟨q1, q2, q3⟩ := h5 j hj t ht
  by_cases hjt : sdO j t = sdO i s
  · obtain ⟨rfl, rfl⟩ := sdO_inj hj hi ht hs hjt
    have es : sd ν b j t = [] := by unfold sd; rw [u.2.2.1]; rfl
    rw [es, u.2.2.1]
    refine ⟨fun r hr => absurd hr (by simp), List.Pairwise.nil, fun x => ?_⟩
    constructor
    · intro z; exact absurd z (by simp)
    · intro z; exact absurd z.2 ((hm x).mp z.1).2
  · have el : q_lst ν (b + sdO j t) = q_lst μ (b + sdO j t) := u.2.2.2.1 _ (hK.lo (sdO_lo hj t)) (by omega)
    have es : sd ν b j t = sd μ b j t := by
      unfold sd; rw [el]
      apply List.map_congr_left
      intro r _; exact sd_lu u _ r
    rw [es, el]
    refine ⟨fun r hr => ?_, q2, fun x => ?_⟩
    · obtain ⟨z1, z2⟩ := q1 r hr
      rw [u.2.1.k z1 (by omega), u.2.1.i 578 rfl]; exact ⟨rfl, z2⟩
    · rw [q3 x, hm x]
      constructor
      · refine fun z => ⟨⟨z.1, fun w => ?_⟩, z.2⟩
        rw [z.2.1, z.2.2] at w
        have e1 := (i3_eq (show j < 2147483648 by omega) (show i < 2147483648 by omega)).mp w.1
        exact hjt (by rw [e1, w.2])
      · exact fun z => ⟨z.1.1, z.2⟩
def offT (os : List Od) (t : Int32) : List Od := os.filter fun x => ! (oT x == t)
theorem off2 {os : List Od} {t : Int32} (h : ∀ x, x ∈ os → oB x = 0 ∨ oB x = 1) : offS (offS os t 1) t 0 = offT os t := by
  unfold offS offT
  rw [List.filter_filter]
  apply List.filter_congr
  intro x hx
  by_cases e : oT x = t
  · rcases h x hx with q | q <;> simp [e, q]
  · have : (oT x == t) = false := by simpa using e
    simp [this]
theorem LU.csT {b o c : Nat} {l : List Nat} {μ ν : Mem} (hK : K0 μ b) (h : LU (b + o) l c μ ν) : Cs [832, 833, 834, 2372] [o] 1 c b μ ν := h.cs hK
theorem c_dropAll {μ : Mem} {b i : Nat} {v : q_VO} (hK : K0 μ b) (hW : WF μ) (hO : q_CO μ b v) (hi : i < 6) (hl : v.1.length ≤ 120) : q_wp (F_X2_dropAll (b + (9 + 4 * i))) μ (fun _ ν => q_CO ν b (offT v.1 (q_i3 i), v.2) ∧ Cs [832, 833, 834, 2372] [10 + 4 * i, 11 + 4 * i] 2 0 b μ ν) := by
  unfold F_X2_dropAll
  obtain ⟨_, _, _, _, k1, k0, _⟩ := hK.mo hi
  simp (maxSteps := 2000000) (disch := first | assumption | omega | (simp only [K0_sI, K0_sL, K0_tI, K0_tL, K0_nE]; assumption)) only [wp_bn, xgI11, xgL11, xwI11, xpR11, xgI4, xgL4, xwI4, xpR4, xgI7, xgL7, xwI7, xpR7, xgI12, xgL12, xwI12, xpR12, xgP11_0, xgP11_1, xgP11_2, xgP11_3, xgP11_4, xgP11_5, xgP11_6, xgP11_7, xgP4_0, xl115, xs115, xgP4_9, xl120, xs120, xgP7_0, xgP7_1, xl136, xs136, xgP7_2, xl144, xs144, xgP12_0, xl160, xs160, xgP12_4, xl168, xs168, xgP12_5, xl176, xs176, xgP12_6, xl184, xs184, xgP12_7, xl192, xs192, xgP12_8, xl200, xs200, xgP12_11, xl209, xs209, xgP12_12, xl218, xs218, xgP12_13, xl226, xs226, xgP12_14, xl232, xs232, xgP12_15, xl241, xs241, xgP12_16, xl248, xs248, xgP12_17, xl256, xs256, xgP12_18, xl264, xs264, xgP12_19, xl274, xs274, xgP12_20, xl280, xs280, xgP12_22, xl288, xs288, xgP12_25, xl296, xs296, xgP12_26, xl305, xs305, xgP12_27, xl312, xs312, xgP12_28, xl321, xs321, xgP12_29, xl328, xs328, xgP12_31, xl336, xs336, xgP12_33, xl344, xs344, xgP12_46, xl352, xs352, xgP12_47, xl360, xs360, xgP2_0, xpL2_0, xgP2_1, xpL2_1, xgP2_2, xpL2_2, xgI2, xwZ2, xpR2, xmo, xpL_5, xpL_33, xpL_34, xpL_35, xpL_36, xpL_37]
  have hl1 := co_len hO hi (s := 1) (Or.inr rfl)
  have hl2 := side_le v.1 (q_i3 i) 1
  rw [sdO1] at hl1
  refine q_wp_mono (ls_clr hW k1 (by omega)) ?_
  intro _ μ1 u1
  have hC1 := u1.cs hK
  have K1 := hC1.k0 hK rfl
  rw [← sdO1] at u1
  have hO1 := co_clr hK hO hi (Or.inr rfl) u1
  obtain ⟨_, _, _, _, k1', k0', _⟩ := K1.mo hi
  simp (maxSteps := 2000000) (disch := first | assumption | omega | (simp only [K0_sI, K0_sL, K0_tI, K0_tL, K0_nE]; assumption)) only [wp_bn, xgI11, xgL11, xwI11, xpR11, xgI4, xgL4, xwI4, xpR4, xgI7, xgL7, xwI7, xpR7, xgI12, xgL12, xwI12, xpR12, xgP11_0, xgP11_1, xgP11_2, xgP11_3, xgP11_4, xgP11_5, xgP11_6, xgP11_7, xgP4_0, xl115, xs115, xgP4_9, xl120, xs120, xgP7_0, xgP7_1, xl136, xs136, xgP7_2, xl144, xs144, xgP12_0, xl160, xs160, xgP12_4, xl168, xs168, xgP12_5, xl176, xs176, xgP12_6, xl184, xs184, xgP12_7, xl192, xs192, xgP12_8, xl200, xs200, xgP12_11, xl209, xs209, xgP12_12, xl218, xs218, xgP12_13, xl226, xs226, xgP12_14, xl232, xs232, xgP12_15, xl241, xs241, xgP12_16, xl248, xs248, xgP12_17, xl256, xs256, xgP12_18, xl264, xs264, xgP12_19, xl274, xs274, xgP12_20, xl280, xs280, xgP12_22, xl288, xs288, xgP12_25, xl296, xs296, xgP12_26, xl305, xs305, xgP12_27, xl312, xs312, xgP12_28, xl321, xs321, xgP12_29, xl328, xs328, xgP12_31, xl336, xs336, xgP12_33, xl344, xs344, xgP12_46, xl352, xs352, xgP12_47, xl360, xs360, xgP2_0, xpL2_0, xgP2_1, xpL2_1, xgP2_2, xpL2_2, xgI2, xwZ2, xpR2, xmo, xpL_5, xpL_33, xpL_34, xpL_35, xpL_36, xpL_37]
  have hl3 := co_len hO1 hi (s := 0) (Or.inl rfl)
  have hl4 := side_le (offS v.1 (q_i3 i) 1) (q_i3 i) 0
  have hl5 : (offS v.1 (q_i3 i) 1).length ≤ v.1.length := List.length_filter_le _ _
  rw [sdO0] at hl3
  refine q_wp_mono (ls_clr hC1.1 k0' (by have hl3 : _ = (q_side (offS v.1 (q_i3 i) 1) (q_i3 i) 0).length := hl3; omega)) ?_
  intro _ μ2 u2
  have hC2 := u2.cs K1
  rw [← sdO0] at u2
  have hO2 := co_clr K1 hO1 hi (Or.inl rfl) u2
  rw [wp_rt]
  refine ⟨?_, (hC1.tr hC2).wk rfl (by unfold subL; simp) (by omega) (by omega)⟩
  have := off2 (t := q_i3 i) (fun x hx => (hO.2.2.2.1 x hx).2.1)
  rw [← this]; exact hO2
def fDeliver (s : q_St) (t : Int32) : Int32 × q_St := if q_inR t 6 ∧ (sG s).2 t.toNatClampNeg = 0 then (1, wO (wG s ((sG s).1, q_upd (sG s).2 t.toNatClampNeg 1)) (offT (sO s).1 t, (sO s).2)) else (0, s)
theorem q_CL.close {μ : Mem} {b i : Nat} {v : VL} (hK : K0 μ b) (hW : WF μ) (h : q_CL μ b v) (hi : i < 6) : q_CL (sI μ 131 (b + (9 + 4 * i)) 1) b (v.1, q_upd v.2 i 1) := by
  have hl := (hW.sI (f := 131) (a := b + (9 + 4 * i)) (v := 1) (by rw [(hK.mo hi).1]; omega) (by omega)).2
  intro j hj
  obtain ⟨g1, g2, g3⟩ := h j hj
  rw [hl]
  refine ⟨g1, g2, ?_⟩
  show _ = q_upd v.2 i 1 j
  unfold q_upd
  rw [mI_sI']
  by_cases e : j = i
  · rw [if_pos e, if_pos ⟨rfl, by rw [e]⟩]
  · rw [if_neg e, if_neg (by omega)]; exact g3
theorem c_deliver {μ : Mem} {b c : Nat} {s : q_St} (hK : K0 μ b) (hW : WF μ) (hA : q_AC μ b s) (hI : Iv s c) (t : Int32) : q_wp (F_X11_deliver b t) μ (fun r ν => r = (fDeliver s t).1 ∧ cOK μ b (fDeliver s t).2 2 0 ν) := by
  obtain ⟨hM, hL, hO, hT, hD, hR, hN, hU, hP⟩ := id hA
  have hl := hI.2.2.1.1
  unfold F_X11_deliver fDeliver
  rw [wp_bn, wp_eq c_isMonth, wp_ite]
  by_cases h : q_inR t 6
  · obtain ⟨i, hi, rfl⟩ := inR_i3 h
    rw [if_pos h, if_neg (by decide), i3_toNat (by omega)]
    have g3 := (hL i hi).2.2
    simp (maxSteps := 2000000) (disch := first | assumption | omega | (simp only [K0_sI, K0_sL, K0_tI, K0_tL, K0_nE]; assumption)) only [wp_bn, xgI11, xgL11, xwI11, xpR11, xgI4, xgL4, xwI4, xpR4, xgI7, xgL7, xwI7, xpR7, xgI12, xgL12, xwI12, xpR12, xgP11_0, xgP11_1, xgP11_2, xgP11_3, xgP11_4, xgP11_5, xgP11_6, xgP11_7, xgP4_0, xl115, xs115, xgP4_9, xl120, xs120, xgP7_0, xgP7_1, xl136, xs136, xgP7_2, xl144, xs144, xgP12_0, xl160, xs160, xgP12_4, xl168, xs168, xgP12_5, xl176, xs176, xgP12_6, xl184, xs184, xgP12_7, xl192, xs192, xgP12_8, xl200, xs200, xgP12_11, xl209, xs209, xgP12_12, xl218, xs218, xgP12_13, xl226, xs226, xgP12_14, xl232, xs232, xgP12_15, xl241, xs241, xgP12_16, xl248, xs248, xgP12_17, xl256, xs256, xgP12_18, xl264, xs264, xgP12_19, xl274, xs274, xgP12_20, xl280, xs280, xgP12_22, xl288, xs288, xgP12_25, xl296, xs296, xgP12_26, xl305, xs305, xgP12_27, xl312, xs312, xgP12_28, xl321, xs321, xgP12_29, xl328, xs328, xgP12_31, xl336, xs336, xgP12_33, xl344, xs344, xgP12_46, xl352, xs352, xgP12_47, xl360, xs360, xgP2_0, xpL2_0, xgP2_1, xpL2_1, xgP2_2, xpL2_2, xgI2, xwZ2, xpR2, xmo, xpL_5, xpL_33, xpL_34, xpL_35, xpL_36, xpL_37, Nat.reduceMul, Nat.reduceAdd, g3, wp_ite]
    by_cases hz : (sG s).2 i = 0
    · rw [if_pos hz, if_pos ⟨h, hz⟩]
      refine ⟨Or.inr trivial, ?_⟩
      simp (maxSteps := 2000000) (disch := first | assumption | omega | (simp only [K0_sI, K0_sL, K0_tI, K0_tL, K0_nE]; assumption)) only [xgI11, xgL11, xwI11, xpR11, xgI4, xgL4, xwI4, xpR4, xgI7, xgL7, xwI7, xpR7, xgI12, xgL12, xwI12, xpR12, xgP11_0, xgP11_1, xgP11_2, xgP11_3, xgP11_4, xgP11_5, xgP11_6, xgP11_7, xgP4_0, xl115, xs115, xgP4_9, xl120, xs120, xgP7_0, xgP7_1, xl136, xs136, xgP7_2, xl144, xs144, xgP12_0, xl160, xs160, xgP12_4, xl168, xs168, xgP12_5, xl176, xs176, xgP12_6, xl184, xs184, xgP12_7, xl192, xs192, xgP12_8, xl200, xs200, xgP12_11, xl209, xs209, xgP12_12, xl218, xs218, xgP12_13, xl226, xs226, xgP12_14, xl232, xs232, xgP12_15, xl241, xs241, xgP12_16, xl248, xs248, xgP12_17, xl256, xs256, xgP12_18, xl264, xs264, xgP12_19, xl274, xs274, xgP12_20, xl280, xs280, xgP12_22, xl288, xs288, xgP12_25, xl296, xs296, xgP12_26, xl305, xs305, xgP12_27, xl312, xs312, xgP12_28, xl321, xs321, xgP12_29, xl328, xs328, xgP12_31, xl336, xs336, xgP12_33, xl344, xs344, xgP12_46, xl352, xs352, xgP12_47, xl360, xs360, xgP2_0, xpL2_0, xgP2_1, xpL2_1, xgP2_2, xpL2_2, xgI2, xwZ2, xpR2, xmo, xpL_5, xpL_33, xpL_34, xpL_35, xpL_36, xpL_37]
      have ka : mK μ (b + (9 + 4 * i)) ≠ 0 := by rw [(hK.mo hi).1]; omega
      have hM1 := Md.sI (f := 131) (v := 1) ka
      have hC1 := hM1.cs (b := b) hW rfl
      have K1 : K0 (sI μ 131 (b + (9 + 4 * i)) 1) b := hK
      have hO1 := hO.fr hC1.2.1 (fun i hi s => hC1.2.2.1 _ (sdO_lo hi s) (by simp)) rfl
      refine q_wp_mono (c_dropAll K1 hC1.1 hO1 hi hl) ?_
      rintro _ ν ⟨hO2, hC2⟩
      rw [wp_rz]
      refine ⟨Or.inr rfl, rfl, ?_⟩
      have hC := hC1.tr hC2
      have hno : ∀ o, o ∈ q_LO → o ≠ 10 + 4 * i → o ≠ 11 + 4 * i → q_lst ν (b + o) = q_lst (sI μ 131 (b + (9 + 4 * i)) 1) (b + o) := fun o ho h1 h2 => hC2.2.2.1 o ho (by simp; omega)
      have hno' : ∀ o, o ∈ q_LO → o ≠ 10 + 4 * i → o ≠ 11 + 4 * i → q_lst ν (b + o) = q_lst μ (b + o) := fun o ho h1 h2 => hC.2.2.1 o ho (by simp; omega)
      refine cOK.of hK ⟨hM.fr hC.2.1 (hno' 33 (by decide) (by omega) (by omega)) rfl, ?_, hO2, hT.fr hC.2.1 (hno' 34 (by decide) (by omega) (by omega)) rfl, hD.fr hC.2.1 (hno' 37 (by decide) (by omega) (by omega)) rfl, hR.fr hC.2.1 (hno' 35 (by decide) (by omega) (by omega)) rfl, hN.fr hC.2.1 (hno' 36 (by decide) (by omega) (by omega)) rfl, hU.fr hC.2.1 (hno' 5 (by decide) (by omega) (by omega)) rfl, hP.fr hC.2.1 rfl⟩ hC rfl rfl
      exact (hL.close hK hW hi).fr hC2.2.1 (fun j hj => hno _ (lgO_lo hj) (by omega) (by omega)) rfl
    · rw [if_neg hz, if_neg (fun z => hz z.2), wp_rz]
      exact ⟨Or.inl rfl, rfl, cOK.rf hK hW hA⟩
  · rw [if_neg h, if_pos rfl, wp_rz, if_neg (fun z => h z.1)]; exact ⟨Or.inl rfl, rfl, cOK.rf hK hW hA⟩
theorem er_take {l F : List Od} {k : Nat} (hk : k < l.length) : (l.take (k + 1) ++ F).eraseIdx k = l.take k ++ F := by
  have h1 : (l.take k).length = k := by rw [List.length_take]; omega
  have h2 : l.take (k + 1) = l.take k ++ [l[k]] := by rw [List.take_succ, List.getElem?_eq_getElem hk]; rfl
  rw [h2, List.append_assoc, List.eraseIdx_append_of_length_le (by omega)]
  rw [h1]; simp
theorem r_deliver {μ : Mem} {b c : Nat} {s : q_St} (hK : K0 μ b) (hA : q_AR μ b s) (hI : Iv s c) (t : Int32) : q_wp (F_X12_deliver (b + 38) t) μ (fun r ν => r = (fDeliver s t).1 ∧ rOK μ b (fDeliver s t).2 0 ν) := by
  unfold F_X12_deliver
  refine r_start hK hA fun μ hK hA hz => ?_
  obtain ⟨hM, hL, hO, hT, hD, hR, hN, hU, hP⟩ := id hA
  have hl := hI.2.2.1.1
  unfold fDeliver
  rw [wp_bn, wp_eq r_isMonth, wp_ite]
  by_cases h : q_inR t 6
  · obtain ⟨i, hi, rfl⟩ := inR_i3 h
    rw [if_pos h, if_neg (by decide), i3_toNat (by omega)]
    have g3 := (hL i hi).2.1
    simp (maxSteps := 2000000) (disch := first | assumption | omega | (simp only [K0_sI, K0_sL, K0_tI, K0_tL, K0_nE]; assumption)) only [wp_bn, xgI11, xgL11, xwI11, xpR11, xgI4, xgL4, xwI4, xpR4, xgI7, xgL7, xwI7, xpR7, xgI12, xgL12, xwI12, xpR12, xgP11_0, xgP11_1, xgP11_2, xgP11_3, xgP11_4, xgP11_5, xgP11_6, xgP11_7, xgP4_0, xl115, xs115, xgP4_9, xl120, xs120, xgP7_0, xgP7_1, xl136, xs136, xgP7_2, xl144, xs144, xgP12_0, xl160, xs160, xgP12_4, xl168, xs168, xgP12_5, xl176, xs176, xgP12_6, xl184, xs184, xgP12_7, xl192, xs192, xgP12_8, xl200, xs200, xgP12_11, xl209, xs209, xgP12_12, xl218, xs218, xgP12_13, xl226, xs226, xgP12_14, xl232, xs232, xgP12_15, xl241, xs241, xgP12_16, xl248, xs248, xgP12_17, xl256, xs256, xgP12_18, xl264, xs264, xgP12_19, xl274, xs274, xgP12_20, xl280, xs280, xgP12_22, xl288, xs288, xgP12_25, xl296, xs296, xgP12_26, xl305, xs305, xgP12_27, xl312, xs312, xgP12_28, xl321, xs321, xgP12_29, xl328, xs328, xgP12_31, xl336, xs336, xgP12_33, xl344, xs344, xgP12_46, xl352, xs352, xgP12_47, xl360, xs360, xgP2_0, xpL2_0, xgP2_1, xpL2_1, xgP2_2, xpL2_2, xgI2, xwZ2, xpR2, xmo, xpL_5, xpL_33, xpL_34, xpL_35, xpL_36, xpL_37, Nat.reduceMul, Nat.reduceAdd, wp_ite, i3m2, i3m4, i3m5, i3m6, i3m7, i3m12, i3m60, i3m72, i3m1600, i3r6, i3p1, i3p2, i3p3, i3p4, i3p5, i3p6, i3p7, i3p8, i3p9, i3p20, i3_add, i3_mul, i3_toNat, inA_i3, i3_lt, i3_le, i3_eq, hi, true_and, g3, mI_sI', mL_sL', mP_sP', aI_tI', aL_tL', aP_tP', mI_sL, mI_sP, mI_tI, mI_tL, mI_tP, mL_sI, mL_sP, mL_tI, mL_tL, mL_tP, mP_sI, mP_sL, mP_tI, mP_tL, mP_tP, aI_sI, aI_sL, aI_sP, aI_tL, aI_tP, aL_sI, aL_sL, aL_sP, aL_tI, aL_tP, aP_sI, aP_sL, aP_sP, aP_tI, aP_tL, mK_sI, mK_sL, mK_sP, mK_tI, mK_tL, mK_tP, mN_sI, mN_sL, mN_sP, mN_tI, mN_tL, mN_tP, mX_sI, mX_sL, mX_sP, mX_tI, mX_tL, mX_tP, mS_sI, mS_sL, mS_sP, mS_tI, mS_tL, mS_tP, mT_sI, mT_sL, mT_sP, mT_tI, mT_tL, mT_tP, hO.1]
    by_cases hc : (sG s).2 i = 0
    · rw [if_pos hc, if_pos ⟨h, hc⟩]
      refine ⟨rfl, ?_⟩
      obtain ⟨μ1, e1⟩ : ∃ μ1, μ1 = tI μ 274 (b + 53) i 1 := ⟨_, rfl⟩
      rw [← e1]
      have hM1 : Md [2274] μ μ1 := by rw [e1]; exact (Md.tI (kr hK 53 273 (by decide))).wk rfl
      have hL1 : q_RL μ1 b ((sG s).1, q_upd (sG s).2 i 1) := by
        intro j hj
        obtain ⟨f1, f2, f3⟩ := hL j hj
        rw [hM1.1.ai 264 rfl, hM1.1.ai 248 rfl, hM1.1.ai 256 rfl]
        refine ⟨f1, ?_, f3⟩
        rw [e1, aI_tI']
        show _ = q_upd (sG s).2 i 1 j
        unfold q_upd
        by_cases e : j = i
        · rw [if_pos e, if_pos ⟨rfl, rfl, e⟩]
        · rw [if_neg e, if_neg (fun z => e z.2.2)]; exact f2
      have key : ∀ k f ν, k ≤ (sO s).1.length → k < f → Md [2274, 789, 2280] μ ν → q_RL ν b ((sG s).1, q_upd (sG s).2 i 1) → RO ν b ((sO s).1.take k ++ offT ((sO s).1.drop k) (q_i3 i), (sO s).2) → q_wp (F_X12_deliver_L37 f (b + 38) (q_i3 i) (q_i3 k - 1)) ν (fun r ν => r = 1 ∧ rOK μ b (wO (wG s ((sG s).1, q_upd (sG s).2 i 1)) (offT (sO s).1 (q_i3 i), (sO s).2)) 0 ν) := by
        intro k
        induction k with
        | zero =>
          intro f ν _ hf hC hL2 hO2
          obtain ⟨f, rfl⟩ : ∃ g, f = g + 1 := ⟨f - 1, by omega⟩
          unfold F_X12_deliver_L37
          rw [wp_ite, if_pos (by decide), wp_rz]
          exact ⟨Or.inr rfl, rfl, rOK.of ⟨hM.fr hC.1 rfl, hL2, hO2, hT.fr hC.1 rfl, hD.fr hC.1 rfl, hR.fr hC.1 rfl, hN.fr hC.1 rfl, hU.fr hC.1 rfl, hP.fr hC.1 rfl⟩ hC rfl (by rw [hC.1.i 803 rfl]; exact hz)⟩
        | succ k ih =>
          intro f ν hk hf hC hL2 hO2
          obtain ⟨f, rfl⟩ : ∃ g, f = g + 1 := ⟨f - 1, by omega⟩
          unfold F_X12_deliver_L37 F_X12_deliver_L60
          have hK2 := hC.k0 hK
          have hlen : ((sO s).1.take (k + 1) ++ offT ((sO s).1.drop (k + 1)) (q_i3 i)).length ≤ 120 ∧ k < ((sO s).1.take (k + 1) ++ offT ((sO s).1.drop (k + 1)) (q_i3 i)).length := by
            rw [List.length_append, List.length_take]
            have : (offT ((sO s).1.drop (k + 1)) (q_i3 i)).length ≤ ((sO s).1.drop (k + 1)).length := List.length_filter_le _ _
            rw [List.length_drop] at this
            omega
          have g2 := (hO2.2 k hlen.2).2.2.1
          have eg : ((sO s).1.take (k + 1) ++ offT ((sO s).1.drop (k + 1)) (q_i3 i)).getD k q_o0 = (sO s).1.getD k q_o0 := by
            simp only [List.getD_eq_getElem?_getD]
            rw [List.getElem?_append_left (by rw [List.length_take]; omega), List.getElem?_take_of_lt (by omega)]
          have g2 : aI ν 280 (b + 54) (5 * k + 2) = oT ((sO s).1.getD k q_o0) := by rw [← eg]; exact g2
          have b2 : 5 * k + 2 < 600 := by omega
          have nn : ¬ q_i3 k < 0 := i3_nn (by omega)
          have ed : (sO s).1.drop k = (sO s).1.getD k q_o0 :: (sO s).1.drop (k + 1) := by
            rw [getD_o (by omega)]; exact List.drop_eq_getElem_cons (by omega)
          rw [i3_s1]
          simp (maxSteps := 2000000) (disch := first | assumption | omega | (simp only [K0_sI, K0_sL, K0_tI, K0_tL, K0_nE]; assumption)) only [wp_ite, nn, if_false, wp_bn, xgI11, xgL11, xwI11, xpR11, xgI4, xgL4, xwI4, xpR4, xgI7, xgL7, xwI7, xpR7, xgI12, xgL12, xwI12, xpR12, xgP11_0, xgP11_1, xgP11_2, xgP11_3, xgP11_4, xgP11_5, xgP11_6, xgP11_7, xgP4_0, xl115, xs115, xgP4_9, xl120, xs120, xgP7_0, xgP7_1, xl136, xs136, xgP7_2, xl144, xs144, xgP12_0, xl160, xs160, xgP12_4, xl168, xs168, xgP12_5, xl176, xs176, xgP12_6, xl184, xs184, xgP12_7, xl192, xs192, xgP12_8, xl200, xs200, xgP12_11, xl209, xs209, xgP12_12, xl218, xs218, xgP12_13, xl226, xs226, xgP12_14, xl232, xs232, xgP12_15, xl241, xs241, xgP12_16, xl248, xs248, xgP12_17, xl256, xs256, xgP12_18, xl264, xs264, xgP12_19, xl274, xs274, xgP12_20, xl280, xs280, xgP12_22, xl288, xs288, xgP12_25, xl296, xs296, xgP12_26, xl305, xs305, xgP12_27, xl312, xs312, xgP12_28, xl321, xs321, xgP12_29, xl328, xs328, xgP12_31, xl336, xs336, xgP12_33, xl344, xs344, xgP12_46, xl352, xs352, xgP12_47, xl360, xs360, xgP2_0, xpL2_0, xgP2_1, xpL2_1, xgP2_2, xpL2_2, xgI2, xwZ2, xpR2, xmo, xpL_5, xpL_33, xpL_34, xpL_35, xpL_36, xpL_37, i3m2, i3m4, i3m5, i3m6, i3m7, i3m12, i3m60, i3m72, i3m1600, i3r6, i3p1, i3p2, i3p3, i3p4, i3p5, i3p6, i3p7, i3p8, i3p9, i3p20, i3_add, i3_mul, i3_toNat, inA_i3, i3_lt, i3_le, i3_eq, b2, true_and, g2, i3_m1]
          by_cases e : oT ((sO s).1.getD k q_o0) = q_i3 i
          · rw [if_neg (fun z => z e)]
            refine q_wp_mono (r_drop hK2 hO2 hlen.1 hlen.2) ?_
            rintro _ ν2 ⟨hO3, hC3⟩
            refine ih f ν2 (by omega) (by omega) ((hC.tr hC3).wk rfl) (hL2.fr hC3.1 rfl) ?_
            have e3 : (sO s).1.take k ++ offT ((sO s).1.drop k) (q_i3 i) = ((sO s).1.take (k + 1) ++ offT ((sO s).1.drop (k + 1)) (q_i3 i)).eraseIdx k := by
              rw [er_take (by omega), ed]; unfold offT; rw [List.filter_cons]; simp only [e]; simp
            rw [e3]; exact hO3
          · rw [if_pos e]
            refine ih f ν (by omega) (by omega) hC hL2 ?_
            have e3 : (sO s).1.take k ++ offT ((sO s).1.drop k) (q_i3 i) = (sO s).1.take (k + 1) ++ offT ((sO s).1.drop (k + 1)) (q_i3 i) := by
              have h2 : (sO s).1.take (k + 1) = (sO s).1.take k ++ [(sO s).1.getD k q_o0] := by rw [List.take_succ, List.getElem?_eq_getElem (by omega), getD_o (by omega)]; rfl
              rw [ed, h2, List.append_assoc]; unfold offT; rw [List.filter_cons, if_pos (by simpa using e)]; rfl
            rw [e3]; exact hO2
      have hO1 := hO.fr hM1.1 rfl
      refine key _ _ _ (Nat.le_refl _) (by show _ < 100000; omega) (hM1.wk rfl) hL1 ?_
      rw [List.take_length, List.drop_length]
      show RO μ1 b ((sO s).1 ++ [], (sO s).2)
      rw [List.append_nil]; exact hO1
    · rw [if_neg hc, if_neg (fun z => hc z.2), wp_rz]
      exact ⟨Or.inl rfl, rfl, rOK.rf hA hz⟩
  · rw [if_neg h, if_pos rfl, wp_rz, if_neg (fun z => h z.1)]; exact ⟨Or.inl rfl, rfl, rOK.rf hA hz⟩

theorem nar_char (v : Int32) : vp_nar .char v = v.toUInt32.toUInt16.toUInt32.toInt32 := rfl
theorem q_nar_z (v : Int32) : vp_nar .boolean v = v &&& 1 := rfl
def byt (v k : Int32) : Int32 := (v >>> (k &&& 31)) &&& 255
theorem b255 (y : Int32) : ((y &&& 255).toUInt32).toNat ≤ 255 := by
  rw [Int32.toUInt32_and, UInt32.toNat_and]; exact Nat.and_le_right
theorem char_eq (y : Int32) : ((y &&& 255).toUInt32 % 65536).toInt32 = y &&& 255 := by
  have h := b255 y
  rw [UInt32.mod_eq_of_lt (by rw [UInt32.lt_iff_toNat_lt]; show _ < 65536; omega), Int32.toInt32_toUInt32]
theorem char_nar (y : Int32) : vp_nar .char (y &&& 255) = y &&& 255 := by
  rw [nar_char]
  have h := b255 y
  have : (y &&& 255).toUInt32.toUInt16.toUInt32 = (y &&& 255).toUInt32 := by
    apply UInt32.toNat_inj.mp
    rw [UInt16.toNat_toUInt32, UInt32.toNat_toUInt16]
    omega
  rw [this, Int32.toInt32_toUInt32]
def q_put (v : VP) (x : Int32) : VP := (v.1 + 1, q_upd v.2.1 v.1 x, v.2.2)
def q_lay (v : VP) (x : Int32) : VP := q_put (q_put (q_put (q_put v (byt x 24)) (byt x 16)) (byt x 8)) (byt x 0)
theorem c_put {μ : Mem} {b : Nat} {v : VP} (hK : K0 μ b) (h : CP μ b v) (x : Int32) : CP (sI (tI μ 115 (b + 2) v.1 x) 257 (b + 1) (q_i3 (v.1 + 1))) b (q_put v x) := by
  obtain ⟨p1, p2, p3, p4⟩ := h
  refine ⟨by rw [mI_sI']; simp; rfl, by rw [mI_sI', if_neg (by omega)]; exact p2, by rw [mI_sI', if_neg (by omega)]; exact p3, fun i hi => ?_⟩
  have hi : i < v.1 + 1 := hi
  show _ = q_upd v.2.1 v.1 x i
  unfold q_upd
  rw [aI_sI, aI_tI']
  by_cases e : i = v.1
  · rw [if_pos e, if_pos ⟨rfl, rfl, e⟩]
  · rw [if_neg e, if_neg (fun z => e z.2.2)]; exact p4 i (by omega)
theorem c_append1 {μ : Mem} {b n : Nat} {v : VP} {x k : Int32} {Q : Unit → Mem → Prop} (hK : K0 μ b) (h : CP μ b v) (hv : v.1 < 600) (hk : ¬ k < 0) (hQ : ∀ ν, Md [2115, 257] μ ν → CP ν b (q_put v (byt x k)) → q_wp (F_X4_append_L3 n (b + 1) x (k + (-8))) ν Q) : q_wp (F_X4_append_L3 (n + 1) (b + 1) x k) μ Q := by
  unfold F_X4_append_L3
  have hle : ¬ (600 : Int32) ≤ q_i3 v.1 := fun z => by have := (i3_le (a := 600) (b := v.1) (by omega) (by omega)).mp z; omega
  rw [wp_ite, if_neg hk]
  simp (maxSteps := 2000000) (disch := first | assumption | omega | (simp only [K0_sI, K0_sL, K0_tI, K0_tL, K0_nE]; assumption)) only [wp_bn, xgI11, xgL11, xwI11, xpR11, xgI4, xgL4, xwI4, xpR4, xgI7, xgL7, xwI7, xpR7, xgI12, xgL12, xwI12, xpR12, xgP11_0, xgP11_1, xgP11_2, xgP11_3, xgP11_4, xgP11_5, xgP11_6, xgP11_7, xgP4_0, xl115, xs115, xgP4_9, xl120, xs120, xgP7_0, xgP7_1, xl136, xs136, xgP7_2, xl144, xs144, xgP12_0, xl160, xs160, xgP12_4, xl168, xs168, xgP12_5, xl176, xs176, xgP12_6, xl184, xs184, xgP12_7, xl192, xs192, xgP12_8, xl200, xs200, xgP12_11, xl209, xs209, xgP12_12, xl218, xs218, xgP12_13, xl226, xs226, xgP12_14, xl232, xs232, xgP12_15, xl241, xs241, xgP12_16, xl248, xs248, xgP12_17, xl256, xs256, xgP12_18, xl264, xs264, xgP12_19, xl274, xs274, xgP12_20, xl280, xs280, xgP12_22, xl288, xs288, xgP12_25, xl296, xs296, xgP12_26, xl305, xs305, xgP12_27, xl312, xs312, xgP12_28, xl321, xs321, xgP12_29, xl328, xs328, xgP12_31, xl336, xs336, xgP12_33, xl344, xs344, xgP12_46, xl352, xs352, xgP12_47, xl360, xs360, xgP2_0, xpL2_0, xgP2_1, xpL2_1, xgP2_2, xpL2_2, xgI2, xwZ2, xpR2, xmo, xpL_5, xpL_33, xpL_34, xpL_35, xpL_36, xpL_37, Nat.reduceMul, Nat.reduceAdd, h.1, wp_ite, hle, if_false, char_eq, char_nar, and_true, i3m2, i3m4, i3m5, i3m6, i3m7, i3m12, i3m60, i3m72, i3m1600, i3r6, i3p1, i3p2, i3p3, i3p4, i3p5, i3p6, i3p7, i3p8, i3p9, i3p20, i3_add, i3_mul, i3_toNat, inA_i3, i3_lt, i3_le, i3_eq, hv, mI_sI', mL_sL', mP_sP', aI_tI', aL_tL', aP_tP', mI_sL, mI_sP, mI_tI, mI_tL, mI_tP, mL_sI, mL_sP, mL_tI, mL_tL, mL_tP, mP_sI, mP_sL, mP_tI, mP_tL, mP_tP, aI_sI, aI_sL, aI_sP, aI_tL, aI_tP, aL_sI, aL_sL, aL_sP, aL_tI, aL_tP, aP_sI, aP_sL, aP_sP, aP_tI, aP_tL, mK_sI, mK_sL, mK_sP, mK_tI, mK_tL, mK_tP, mN_sI, mN_sL, mN_sP, mN_tI, mN_tL, mN_tP, mX_sI, mX_sL, mX_sP, mX_tI, mX_tL, mX_tP, mS_sI, mS_sL, mS_sP, mS_tI, mS_tL, mS_tP, mT_sI, mT_sL, mT_sP, mT_tI, mT_tL, mT_tP, true_and]
  refine hQ _ ?_ (c_put hK h _)
  exact ((Md.tI (kr hK 2 114 (by decide))).tr (Md.sI (kr hK 1 4 (by decide)))).wk rfl
theorem c_append {μ : Mem} {b : Nat} {v : VP} {x : Int32} (hK : K0 μ b) (h : CP μ b v) (hv : v.1 + 4 ≤ 600) : q_wp (F_X4_append (b + 1) x) μ (fun _ ν => CP ν b (q_lay v x) ∧ Md [2115, 257] μ ν) := by
  unfold F_X4_append
  rw [show FU = 99995 + 1 + 1 + 1 + 1 + 1 from rfl]
  refine c_append1 hK h (by omega) (by decide) fun μ1 m1 h1 => ?_
  refine c_append1 (m1.k0 hK) h1 (by show v.1 + 1 < 600; omega) (by decide) fun μ2 m2 h2 => ?_
  refine c_append1 (m2.k0 (m1.k0 hK)) h2 (by show v.1 + 1 + 1 < 600; omega) (by decide) fun μ3 m3 h3 => ?_
  refine c_append1 (m3.k0 (m2.k0 (m1.k0 hK))) h3 (by show v.1 + 1 + 1 + 1 < 600; omega) (by decide) fun μ4 m4 h4 => ?_
  unfold F_X4_append_L3
  rw [wp_ite, if_pos (by decide), wp_rt]
  exact ⟨h4, (((m1.tr m2).tr m3).tr m4).wk rfl⟩
def fFeed (s : q_St) (a c d e f : Int32) : Int32 × q_St := if (sP' s).1 + 20 ≤ 600 then (q_i3 ((sP' s).1 + 20), wP' s (q_lay (q_lay (q_lay (q_lay (q_lay (sP' s) a) c) d) e) f)) else (-1, s)
theorem lay1 (v : VP) (x : Int32) : (q_lay v x).1 = v.1 + 4 := rfl
theorem c_feed {μ : Mem} {b n : Nat} {s : q_St} (hK : K0 μ b) (hW : WF μ) (hA : q_AC μ b s) (hI : Iv s n) (a c d e f : Int32) : q_wp (F_X11_feed b a c d e f) μ (fun r ν => r = (fFeed s a c d e f).1 ∧ cOK μ b (fFeed s a c d e f).2 0 0 ν) := by
  obtain ⟨hM, hL, hO, hT, hD, hR, hN, hU, hP⟩ := id hA
  have hb := hI.2.2.2.2.2.2.2.2
  unfold F_X11_feed F_X4_hasRoomForFive fFeed
  have p1 := hP.1
  have hlt : (600 : Int32) < q_i3 ((sP' s).1 + 20) ↔ 600 < (sP' s).1 + 20 := i3_lt (a := 600) (by omega) (by omega)
  simp (maxSteps := 2000000) (disch := first | assumption | omega | (simp only [K0_sI, K0_sL, K0_tI, K0_tL, K0_nE]; assumption)) only [wp_bn, xgI11, xgL11, xwI11, xpR11, xgI4, xgL4, xwI4, xpR4, xgI7, xgL7, xwI7, xpR7, xgI12, xgL12, xwI12, xpR12, xgP11_0, xgP11_1, xgP11_2, xgP11_3, xgP11_4, xgP11_5, xgP11_6, xgP11_7, xgP4_0, xl115, xs115, xgP4_9, xl120, xs120, xgP7_0, xgP7_1, xl136, xs136, xgP7_2, xl144, xs144, xgP12_0, xl160, xs160, xgP12_4, xl168, xs168, xgP12_5, xl176, xs176, xgP12_6, xl184, xs184, xgP12_7, xl192, xs192, xgP12_8, xl200, xs200, xgP12_11, xl209, xs209, xgP12_12, xl218, xs218, xgP12_13, xl226, xs226, xgP12_14, xl232, xs232, xgP12_15, xl241, xs241, xgP12_16, xl248, xs248, xgP12_17, xl256, xs256, xgP12_18, xl264, xs264, xgP12_19, xl274, xs274, xgP12_20, xl280, xs280, xgP12_22, xl288, xs288, xgP12_25, xl296, xs296, xgP12_26, xl305, xs305, xgP12_27, xl312, xs312, xgP12_28, xl321, xs321, xgP12_29, xl328, xs328, xgP12_31, xl336, xs336, xgP12_33, xl344, xs344, xgP12_46, xl352, xs352, xgP12_47, xl360, xs360, xgP2_0, xpL2_0, xgP2_1, xpL2_1, xgP2_2, xpL2_2, xgI2, xwZ2, xpR2, xmo, xpL_5, xpL_33, xpL_34, xpL_35, xpL_36, xpL_37, Nat.reduceMul, Nat.reduceAdd, p1, wp_ite, i3p20, hlt]
  by_cases h : (sP' s).1 + 20 ≤ 600
  · rw [if_neg (by omega), if_pos h, wp_rz]
    refine ⟨Or.inr rfl, ?_⟩
    rw [if_pos (by decide), xgP11_0 hK, xpR4 hK]
    refine q_wp_mono (c_append hK hP (by omega)) ?_
    rintro _ μ1 ⟨P1, m1⟩
    have K1 := m1.k0 hK
    rw [xgP11_0 K1, xpR4 K1]
    refine q_wp_mono (c_append K1 P1 (by rw [lay1]; omega)) ?_
    rintro _ μ2 ⟨P2, m2⟩
    have K2 := m2.k0 K1
    rw [xgP11_0 K2, xpR4 K2]
    refine q_wp_mono (c_append K2 P2 (by rw [lay1, lay1]; omega)) ?_
    rintro _ μ3 ⟨P3, m3⟩
    have K3 := m3.k0 K2
    rw [xgP11_0 K3, xpR4 K3]
    refine q_wp_mono (c_append K3 P3 (by rw [lay1, lay1, lay1]; omega)) ?_
    rintro _ μ4 ⟨P4, m4⟩
    have K4 := m4.k0 K3
    rw [xgP11_0 K4, xpR4 K4]
    refine q_wp_mono (c_append K4 P4 (by rw [lay1, lay1, lay1, lay1]; omega)) ?_
    rintro _ μ5 ⟨P5, m5⟩
    have K5 := m5.k0 K4
    rw [xgP11_0 K5, xgI4 K5, wp_rt]
    have hC := ((((m1.tr m2).tr m3).tr m4).tr m5).cs (b := b) hW rfl
    exact ⟨P5.1, cOK.of hK ⟨hM.fr hC.2.1 (hC.2.2.1 33 (by decide) (by decide)) rfl, hL.fr hC.2.1 (fun i hi => hC.2.2.1 _ (lgO_lo hi) (lgNo (by decide) hi)) rfl, hO.fr hC.2.1 (fun i hi s => hC.2.2.1 _ (sdO_lo hi s) (sdNo (by decide) hi s)) rfl, hT.fr hC.2.1 (hC.2.2.1 34 (by decide) (by decide)) rfl, hD.fr hC.2.1 (hC.2.2.1 37 (by decide) (by decide)) rfl, hR.fr hC.2.1 (hC.2.2.1 35 (by decide) (by decide)) rfl, hN.fr hC.2.1 (hC.2.2.1 36 (by decide) (by decide)) rfl, hU.fr hC.2.1 (hC.2.2.1 5 (by decide) (by decide)) rfl, P5⟩ hC rfl rfl⟩
  · rw [if_pos (by omega), if_neg h, wp_rz]
    refine ⟨Or.inl rfl, ?_⟩
    rw [if_neg (by decide), wp_rt]; exact ⟨rfl, cOK.rf hK hW hA⟩
theorem r_put {μ : Mem} {b : Nat} {v : VP} (hK : K0 μ b) (h : RP μ b v) (x : Int32) : RP (sI (tI μ 160 (b + 39) v.1 x) 769 (b + 38) (q_i3 (v.1 + 1))) b (q_put v x) := by
  obtain ⟨p1, p2, p3, p4⟩ := h
  refine ⟨by rw [mI_sI']; simp; rfl, by rw [mI_sI', if_neg (by omega)]; exact p2, by rw [mI_sI', if_neg (by omega)]; exact p3, fun i hi => ?_⟩
  have hi : i < v.1 + 1 := hi
  show _ = q_upd v.2.1 v.1 x i
  unfold q_upd
  rw [aI_sI, aI_tI']
  by_cases e : i = v.1
  · rw [if_pos e, if_pos ⟨rfl, rfl, e⟩]
  · rw [if_neg e, if_neg (fun z => e z.2.2)]; exact p4 i (by omega)
theorem r_lay1 {μ : Mem} {b n : Nat} {v : VP} {x k : Int32} {Q : Unit → Mem → Prop} (hK : K0 μ b) (h : RP μ b v) (hv : v.1 < 600) (hk : ¬ k < 0) (hQ : ∀ ν, Md [2160, 769] μ ν → RP ν b (q_put v (byt x k)) → q_wp (F_X12_lay_L3 n (b + 38) x (k + (-8))) ν Q) : q_wp (F_X12_lay_L3 (n + 1) (b + 38) x k) μ Q := by
  unfold F_X12_lay_L3
  rw [wp_ite, if_neg hk]
  simp (maxSteps := 2000000) (disch := first | assumption | omega | (simp only [K0_sI, K0_sL, K0_tI, K0_tL, K0_nE]; assumption)) only [wp_bn, xgI11, xgL11, xwI11, xpR11, xgI4, xgL4, xwI4, xpR4, xgI7, xgL7, xwI7, xpR7, xgI12, xgL12, xwI12, xpR12, xgP11_0, xgP11_1, xgP11_2, xgP11_3, xgP11_4, xgP11_5, xgP11_6, xgP11_7, xgP4_0, xl115, xs115, xgP4_9, xl120, xs120, xgP7_0, xgP7_1, xl136, xs136, xgP7_2, xl144, xs144, xgP12_0, xl160, xs160, xgP12_4, xl168, xs168, xgP12_5, xl176, xs176, xgP12_6, xl184, xs184, xgP12_7, xl192, xs192, xgP12_8, xl200, xs200, xgP12_11, xl209, xs209, xgP12_12, xl218, xs218, xgP12_13, xl226, xs226, xgP12_14, xl232, xs232, xgP12_15, xl241, xs241, xgP12_16, xl248, xs248, xgP12_17, xl256, xs256, xgP12_18, xl264, xs264, xgP12_19, xl274, xs274, xgP12_20, xl280, xs280, xgP12_22, xl288, xs288, xgP12_25, xl296, xs296, xgP12_26, xl305, xs305, xgP12_27, xl312, xs312, xgP12_28, xl321, xs321, xgP12_29, xl328, xs328, xgP12_31, xl336, xs336, xgP12_33, xl344, xs344, xgP12_46, xl352, xs352, xgP12_47, xl360, xs360, xgP2_0, xpL2_0, xgP2_1, xpL2_1, xgP2_2, xpL2_2, xgI2, xwZ2, xpR2, xmo, xpL_5, xpL_33, xpL_34, xpL_35, xpL_36, xpL_37, Nat.reduceMul, Nat.reduceAdd, h.1, i3m2, i3m4, i3m5, i3m6, i3m7, i3m12, i3m60, i3m72, i3m1600, i3r6, i3p1, i3p2, i3p3, i3p4, i3p5, i3p6, i3p7, i3p8, i3p9, i3p20, i3_add, i3_mul, i3_toNat, inA_i3, i3_lt, i3_le, i3_eq, hv, mI_sI', mL_sL', mP_sP', aI_tI', aL_tL', aP_tP', mI_sL, mI_sP, mI_tI, mI_tL, mI_tP, mL_sI, mL_sP, mL_tI, mL_tL, mL_tP, mP_sI, mP_sL, mP_tI, mP_tL, mP_tP, aI_sI, aI_sL, aI_sP, aI_tL, aI_tP, aL_sI, aL_sL, aL_sP, aL_tI, aL_tP, aP_sI, aP_sL, aP_sP, aP_tI, aP_tL, mK_sI, mK_sL, mK_sP, mK_tI, mK_tL, mK_tP, mN_sI, mN_sL, mN_sP, mN_tI, mN_tL, mN_tP, mX_sI, mX_sL, mX_sP, mX_tI, mX_tL, mX_tP, mS_sI, mS_sL, mS_sP, mS_tI, mS_tL, mS_tP, mT_sI, mT_sL, mT_sP, mT_tI, mT_tL, mT_tP, true_and]
  refine hQ _ ?_ (r_put hK h _)
  exact ((Md.tI (kr hK 39 159 (by decide))).tr (Md.sI (kr hK 38 12 (by decide)))).wk rfl
theorem r_lay {μ : Mem} {b : Nat} {v : VP} {x : Int32} (hK : K0 μ b) (h : RP μ b v) (hv : v.1 + 4 ≤ 600) : q_wp (F_X12_lay (b + 38) x) μ (fun _ ν => RP ν b (q_lay v x) ∧ Md [2160, 769] μ ν) := by
  unfold F_X12_lay
  rw [show FU = 99995 + 1 + 1 + 1 + 1 + 1 from rfl]
  refine r_lay1 hK h (by omega) (by decide) fun μ1 m1 h1 => ?_
  refine r_lay1 (m1.k0 hK) h1 (by show v.1 + 1 < 600; omega) (by decide) fun μ2 m2 h2 => ?_
  refine r_lay1 (m2.k0 (m1.k0 hK)) h2 (by show v.1 + 1 + 1 < 600; omega) (by decide) fun μ3 m3 h3 => ?_
  refine r_lay1 (m3.k0 (m2.k0 (m1.k0 hK))) h3 (by show v.1 + 1 + 1 + 1 < 600; omega) (by decide) fun μ4 m4 h4 => ?_
  unfold F_X12_lay_L3
  rw [wp_ite, if_pos (by decide), wp_rt]
  exact ⟨h4, (((m1.tr m2).tr m3).tr m4).wk rfl⟩
theorem r_feed {μ : Mem} {b n : Nat} {s : q_St} (hK : K0 μ b) (hA : q_AR μ b s) (hI : Iv s n) (a c d e f : Int32) : q_wp (F_X12_feed (b + 38) a c d e f) μ (fun r ν => r = (fFeed s a c d e f).1 ∧ rOK μ b (fFeed s a c d e f).2 0 ν) := by
  have hb := hI.2.2.2.2.2.2.2.2
  unfold F_X12_feed
  refine r_start hK hA fun μ hK hA hz => ?_
  obtain ⟨hM, hL, hO, hT, hD, hR, hN, hU, hP⟩ := id hA
  unfold fFeed
  have p1 := hP.1
  have hlt : q_i3 ((sP' s).1 + 20) ≤ 600 ↔ (sP' s).1 + 20 ≤ 600 := i3_le (b := 600) (by omega) (by omega)
  simp (maxSteps := 2000000) (disch := first | assumption | omega | (simp only [K0_sI, K0_sL, K0_tI, K0_tL, K0_nE]; assumption)) only [wp_bn, xgI11, xgL11, xwI11, xpR11, xgI4, xgL4, xwI4, xpR4, xgI7, xgL7, xwI7, xpR7, xgI12, xgL12, xwI12, xpR12, xgP11_0, xgP11_1, xgP11_2, xgP11_3, xgP11_4, xgP11_5, xgP11_6, xgP11_7, xgP4_0, xl115, xs115, xgP4_9, xl120, xs120, xgP7_0, xgP7_1, xl136, xs136, xgP7_2, xl144, xs144, xgP12_0, xl160, xs160, xgP12_4, xl168, xs168, xgP12_5, xl176, xs176, xgP12_6, xl184, xs184, xgP12_7, xl192, xs192, xgP12_8, xl200, xs200, xgP12_11, xl209, xs209, xgP12_12, xl218, xs218, xgP12_13, xl226, xs226, xgP12_14, xl232, xs232, xgP12_15, xl241, xs241, xgP12_16, xl248, xs248, xgP12_17, xl256, xs256, xgP12_18, xl264, xs264, xgP12_19, xl274, xs274, xgP12_20, xl280, xs280, xgP12_22, xl288, xs288, xgP12_25, xl296, xs296, xgP12_26, xl305, xs305, xgP12_27, xl312, xs312, xgP12_28, xl321, xs321, xgP12_29, xl328, xs328, xgP12_31, xl336, xs336, xgP12_33, xl344, xs344, xgP12_46, xl352, xs352, xgP12_47, xl360, xs360, xgP2_0, xpL2_0, xgP2_1, xpL2_1, xgP2_2, xpL2_2, xgI2, xwZ2, xpR2, xmo, xpL_5, xpL_33, xpL_34, xpL_35, xpL_36, xpL_37, Nat.reduceMul, Nat.reduceAdd, p1, wp_ite, i3p20, hlt]
  by_cases h : (sP' s).1 + 20 ≤ 600
  · simp only [h, if_true]
    refine q_wp_mono (r_lay hK hP (by omega)) ?_
    rintro _ μ1 ⟨P1, m1⟩
    have K1 := m1.k0 hK
    rw [xpR12 K1]
    refine q_wp_mono (r_lay K1 P1 (by rw [lay1]; omega)) ?_
    rintro _ μ2 ⟨P2, m2⟩
    have K2 := m2.k0 K1
    rw [xpR12 K2]
    refine q_wp_mono (r_lay K2 P2 (by rw [lay1, lay1]; omega)) ?_
    rintro _ μ3 ⟨P3, m3⟩
    have K3 := m3.k0 K2
    rw [xpR12 K3]
    refine q_wp_mono (r_lay K3 P3 (by rw [lay1, lay1, lay1]; omega)) ?_
    rintro _ μ4 ⟨P4, m4⟩
    have K4 := m4.k0 K3
    rw [xpR12 K4]
    refine q_wp_mono (r_lay K4 P4 (by rw [lay1, lay1, lay1, lay1]; omega)) ?_
    rintro _ μ5 ⟨P5, m5⟩
    have K5 := m5.k0 K4
    rw [xgI12 K5, wp_rt]
    have hC := (((m1.tr m2).tr m3).tr m4).tr m5
    exact ⟨P5.1, rOK.of ⟨hM.fr hC.1 rfl, hL.fr hC.1 rfl, hO.fr hC.1 rfl, hT.fr hC.1 rfl, hD.fr hC.1 rfl, hR.fr hC.1 rfl, hN.fr hC.1 rfl, hU.fr hC.1 rfl, P5⟩ hC rfl (by rw [hC.1.i 803 rfl]; exact hz)⟩
  · simp only [h, if_false, wp_rt]; exact ⟨trivial, rOK.rf hA hz⟩

def q_fits (v : List q_Ru) (name day : Int32) (k : Nat) : Bool := (v.getD k r0).1 == name && ! decide (day < (v.getD k r0).2.1)
def okR (v : List q_Ru) (n : Nat) : Option Nat → Bool
  | none => true
  | some k => ! decide ((v.getD n r0).2.1 < (v.getD k r0).2.1)
def bestR (v : List q_Ru) (name day : Int32) : Nat → Option Nat
  | 0 => none
  | n + 1 => if q_fits v name day n && okR v n (bestR v name day n) then some n else bestR v name day n
theorem bestR_lt {v : List q_Ru} {name day : Int32} : ∀ {n k : Nat}, bestR v name day n = some k → k < n
  | 0, k, h => by cases h
  | n + 1, k, h => by
    unfold bestR at h
    by_cases hc : (q_fits v name day n && okR v n (bestR v name day n)) = true
    · rw [if_pos hc] at h; cases h; omega
    · rw [if_neg hc] at h; have := bestR_lt h; omega
def wds (d m p l g q : Int32) : Nat → Int32 := fun j => if j = 0 then d else if j = 1 then m else if j = 2 then p else if j = 3 then l else if j = 4 then g else if j = 5 then q else 0
def q_rv (v : List q_Ru) (name d m p l g q : Int32) : Int32 := match bestR v name d v.length with
  | none => if name = 0 ∨ name = 3 then 1000 else 0
  | some k => (v.getD k r0).2.2 (wds d m p l g q)
theorem c_inForce {μ : Mem} {b : Nat} {v : List q_Ru} {name day : Int32} (hK : K0 μ b) (hW : WF μ) (hU : CU μ b v) : F_X7_inForce (b + 4) name day μ = some ((bestR v name day v.length).map (rl μ b), μ) := by
  apply eq_wp
  have k5 := hK.k 5 14 (by decide)
  obtain ⟨h1, h2, h3⟩ := hU
  unfold F_X7_inForce
  refine wp_loop (σ := Option Nat) (fun f k z => F_X7_inForce_L5 f (b + 4) name day z (q_i3 k)) v.length (fun k z ν => ν = μ ∧ z = (bestR v name day k).map (rl μ b)) _ ?_ ?_ FU 0 none μ (by omega) (by show _ < 100000; omega) ⟨rfl, rfl⟩
  · rintro f z ν ⟨rfl, rfl⟩
    unfold F_X7_inForce_L5
    simp (maxSteps := 2000000) (disch := first | assumption | omega | (simp only [K0_sI, K0_sL, K0_tI, K0_tL, K0_nE]; assumption)) only [wp_bn, xgI11, xgL11, xwI11, xpR11, xgI4, xgL4, xwI4, xpR4, xgI7, xgL7, xwI7, xpR7, xgI12, xgL12, xwI12, xpR12, xgP11_0, xgP11_1, xgP11_2, xgP11_3, xgP11_4, xgP11_5, xgP11_6, xgP11_7, xgP4_0, xl115, xs115, xgP4_9, xl120, xs120, xgP7_0, xgP7_1, xl136, xs136, xgP7_2, xl144, xs144, xgP12_0, xl160, xs160, xgP12_4, xl168, xs168, xgP12_5, xl176, xs176, xgP12_6, xl184, xs184, xgP12_7, xl192, xs192, xgP12_8, xl200, xs200, xgP12_11, xl209, xs209, xgP12_12, xl218, xs218, xgP12_13, xl226, xs226, xgP12_14, xl232, xs232, xgP12_15, xl241, xs241, xgP12_16, xl248, xs248, xgP12_17, xl256, xs256, xgP12_18, xl264, xs264, xgP12_19, xl274, xs274, xgP12_20, xl280, xs280, xgP12_22, xl288, xs288, xgP12_25, xl296, xs296, xgP12_26, xl305, xs305, xgP12_27, xl312, xs312, xgP12_28, xl321, xs321, xgP12_29, xl328, xs328, xgP12_31, xl336, xs336, xgP12_33, xl344, xs344, xgP12_46, xl352, xs352, xgP12_47, xl360, xs360, xgP2_0, xpL2_0, xgP2_1, xpL2_1, xgP2_2, xpL2_2, xgI2, xwZ2, xpR2, xmo, xpL_5, xpL_33, xpL_34, xpL_35, xpL_36, xpL_37, wp_eq (ls_size hW k5), h1, wp_ite, i3m2, i3m4, i3m5, i3m6, i3m7, i3m12, i3m60, i3m72, i3m1600, i3r6, i3p1, i3p2, i3p3, i3p4, i3p5, i3p6, i3p7, i3p8, i3p9, i3p20, i3_add, i3_mul, i3_toNat, inA_i3, i3_lt, i3_le, i3_eq, Nat.le_refl, if_true, wp_rt]
    exact ⟨trivial, trivial⟩
  · rintro f k z ν hk ⟨rfl, rfl⟩ ih
    show q_wp (F_X7_inForce_L5 (f + 1) (b + 4) name day _ (q_i3 k)) ν _
    unfold F_X7_inForce_L5 F_X7_inForce_L53 F_X7_inForce_L54 F_X7_inForce_L77 F_X7_inForce_L80
    obtain ⟨g1, g2, g3, _⟩ := h3 k hk
    have g1' : mK ν ((q_lst ν (b + 5)).getD k 0) = 7 := g1
    have g2' : mI ν (64 * 6 + 0) ((q_lst ν (b + 5)).getD k 0) = (v.getD k r0).1 := g2
    have g3' : mI ν (64 * 6 + 1) ((q_lst ν (b + 5)).getD k 0) = (v.getD k r0).2.1 := g3
    have hle : ¬ v.length ≤ k := by omega
    simp (maxSteps := 2000000) (disch := first | assumption | omega | (simp only [K0_sI, K0_sL, K0_tI, K0_tL, K0_nE]; assumption)) only [wp_bn, xgI11, xgL11, xwI11, xpR11, xgI4, xgL4, xwI4, xpR4, xgI7, xgL7, xwI7, xpR7, xgI12, xgL12, xwI12, xpR12, xgP11_0, xgP11_1, xgP11_2, xgP11_3, xgP11_4, xgP11_5, xgP11_6, xgP11_7, xgP4_0, xl115, xs115, xgP4_9, xl120, xs120, xgP7_0, xgP7_1, xl136, xs136, xgP7_2, xl144, xs144, xgP12_0, xl160, xs160, xgP12_4, xl168, xs168, xgP12_5, xl176, xs176, xgP12_6, xl184, xs184, xgP12_7, xl192, xs192, xgP12_8, xl200, xs200, xgP12_11, xl209, xs209, xgP12_12, xl218, xs218, xgP12_13, xl226, xs226, xgP12_14, xl232, xs232, xgP12_15, xl241, xs241, xgP12_16, xl248, xs248, xgP12_17, xl256, xs256, xgP12_18, xl264, xs264, xgP12_19, xl274, xs274, xgP12_20, xl280, xs280, xgP12_22, xl288, xs288, xgP12_25, xl296, xs296, xgP12_26, xl305, xs305, xgP12_27, xl312, xs312, xgP12_28, xl321, xs321, xgP12_29, xl328, xs328, xgP12_31, xl336, xs336, xgP12_33, xl344, xs344, xgP12_46, xl352, xs352, xgP12_47, xl360, xs360, xgP2_0, xpL2_0, xgP2_1, xpL2_1, xgP2_2, xpL2_2, xgI2, xwZ2, xpR2, xmo, xpL_5, xpL_33, xpL_34, xpL_35, xpL_36, xpL_37, wp_eq (ls_size hW k5), h1, wp_ite, i3m2, i3m4, i3m5, i3m6, i3m7, i3m12, i3m60, i3m72, i3m1600, i3r6, i3p1, i3p2, i3p3, i3p4, i3p5, i3p6, i3p7, i3p8, i3p9, i3p20, i3_add, i3_mul, i3_toNat, inA_i3, i3_lt, i3_le, i3_eq, hle, if_false, wp_eq (ls_get hW k5 (show k < (q_lst ν (b + 5)).length by omega)), wp_cst, g1', true_and, wp_gI, g2', g3', if_true]
    have skip : q_fits v name day k = false ∨ (∃ j, bestR v name day k = some j ∧ (v.getD k r0).2.1 < (v.getD j r0).2.1) → q_wp (F_X7_inForce_L5 f (b + 4) name day ((bestR v name day k).map (rl ν b)) (q_i3 (k + 1))) ν (fun a μ' => a = (bestR v name day v.length).map (rl ν b) ∧ μ' = ν) := by
      intro h
      refine ih _ ν ⟨rfl, ?_⟩
      have : bestR v name day (k + 1) = bestR v name day k := by
        show (if _ then _ else _) = _
        rcases h with h | ⟨j, hj, hlt⟩
        · rw [h]; rfl
        · rw [hj]; simp only [okR, hlt]; simp
      rw [this]
    have take : q_fits v name day k = true → (∀ j, bestR v name day k = some j → ¬ (v.getD k r0).2.1 < (v.getD j r0).2.1) → q_wp (F_X7_inForce_L5 f (b + 4) name day (some ((q_lst ν (b + 5)).getD k 0)) (q_i3 (k + 1))) ν (fun a μ' => a = (bestR v name day v.length).map (rl ν b) ∧ μ' = ν) := by
      intro h h'
      refine ih _ ν ⟨rfl, ?_⟩
      have : bestR v name day (k + 1) = some k := by
        show (if _ then _ else _) = _
        rw [h]
        cases hb : bestR v name day k with
        | none => rfl
        | some j => simp only [okR, h' j hb]; simp
      rw [this]; rfl
    by_cases e1 : (v.getD k r0).1 = name
    · rw [if_neg (fun z => z e1)]
      by_cases e2 : day < (v.getD k r0).2.1
      · rw [if_pos e2]
        exact skip (Or.inl (by unfold q_fits; simp only [e2, decide_true]; simp))
      · rw [if_neg e2, if_neg (by decide)]
        have hf : q_fits v name day k = true := by unfold q_fits; simp only [e1, e2, decide_false]; simp
        cases hb : bestR v name day k with
        | none => 
          simp only [Option.map_none, if_true]
          rw [hb] at take
          exact take hf (fun j hj => by cases hj)
        | some j =>
          have hj := bestR_lt hb
          obtain ⟨q1, _, q3, _⟩ := h3 j (by omega)
          have q1' : mK ν (rl ν b j) = 6 + 1 := q1
          have q3' : mI ν (64 * 6 + 1) (rl ν b j) = (v.getD j r0).2.1 := q3
          simp only [Option.map_some, reduceCtorEq, if_false, wp_gI, q1', q3', true_and]
          rw [hb] at take skip
          by_cases e3 : (v.getD k r0).2.1 < (v.getD j r0).2.1
          · rw [if_pos e3]; exact skip (Or.inr ⟨j, rfl, e3⟩)
          · rw [if_neg e3]; exact take hf (fun i hi => by cases hi; exact e3)
    · rw [if_pos e1]
      exact skip (Or.inl (by unfold q_fits; rw [Bool.and_eq_false_iff]; left; simpa using e1))
theorem c_valueOf {μ : Mem} {b : Nat} {v : List q_Ru} {name d m p l g q : Int32} (hK : K0 μ b) (hW : WF μ) (hU : CU μ b v) : q_wp (F_X7_valueOf (b + 4) name d m p l g q) μ (fun r ν => r = q_rv v name d m p l g q ∧ Md [2136, 451, 2144] μ ν) := by
  unfold F_X7_valueOf F_X7_valueOf_L22 q_rv
  rw [wp_bn, xpR7 hK, wp_bn, wp_eq (c_inForce hK hW hU), wp_ite]
  cases hb : bestR v name d v.length with
  | none =>
    simp only [Option.map_none, not_true_eq_false, if_false, wp_ite, wp_rt]
    have hm : Md [2136, 451, 2144] μ μ := (Md.rf μ).wk rfl
    by_cases e0 : name = 0
    · rw [if_pos e0, if_pos (Or.inl e0)]; exact ⟨rfl, hm⟩
    · rw [if_neg e0]
      by_cases e3 : name = 3
      · rw [if_neg (fun z => z e3), if_pos (Or.inr e3)]; exact ⟨rfl, hm⟩
      · rw [if_pos e3, if_neg (fun z => z.elim e0 e3)]; exact ⟨rfl, hm⟩
  | some k =>
    obtain ⟨h1, h2, h3⟩ := hU
    obtain ⟨g1, g2, g3, e, g4, d1, d2, d3⟩ := h3 k (bestR_lt hb)
    simp only [Option.map_some, reduceCtorEq, not_false_iff, if_true]
    simp (maxSteps := 2000000) (disch := first | assumption | omega | (simp only [K0_sI, K0_sL, K0_tI, K0_tL, K0_nE]; assumption)) only [wp_bn, xgI11, xgL11, xwI11, xpR11, xgI4, xgL4, xwI4, xpR4, xgI7, xgL7, xwI7, xpR7, xgI12, xgL12, xwI12, xpR12, xgP11_0, xgP11_1, xgP11_2, xgP11_3, xgP11_4, xgP11_5, xgP11_6, xgP11_7, xgP4_0, xl115, xs115, xgP4_9, xl120, xs120, xgP7_0, xgP7_1, xl136, xs136, xgP7_2, xl144, xs144, xgP12_0, xl160, xs160, xgP12_4, xl168, xs168, xgP12_5, xl176, xs176, xgP12_6, xl184, xs184, xgP12_7, xl192, xs192, xgP12_8, xl200, xs200, xgP12_11, xl209, xs209, xgP12_12, xl218, xs218, xgP12_13, xl226, xs226, xgP12_14, xl232, xs232, xgP12_15, xl241, xs241, xgP12_16, xl248, xs248, xgP12_17, xl256, xs256, xgP12_18, xl264, xs264, xgP12_19, xl274, xs274, xgP12_20, xl280, xs280, xgP12_22, xl288, xs288, xgP12_25, xl296, xs296, xgP12_26, xl305, xs305, xgP12_27, xl312, xs312, xgP12_28, xl321, xs321, xgP12_29, xl328, xs328, xgP12_31, xl336, xs336, xgP12_33, xl344, xs344, xgP12_46, xl352, xs352, xgP12_47, xl360, xs360, xgP2_0, xpL2_0, xgP2_1, xpL2_1, xgP2_2, xpL2_2, xgI2, xwZ2, xpR2, xmo, xpL_5, xpL_33, xpL_34, xpL_35, xpL_36, xpL_37, show (0 : Int32) = q_i3 0 from rfl, show (1 : Int32) = q_i3 1 from rfl, show (2 : Int32) = q_i3 2 from rfl, show (3 : Int32) = q_i3 3 from rfl, show (4 : Int32) = q_i3 4 from rfl, show (5 : Int32) = q_i3 5 from rfl, i3m2, i3m4, i3m5, i3m6, i3m7, i3m12, i3m60, i3m72, i3m1600, i3r6, i3p1, i3p2, i3p3, i3p4, i3p5, i3p6, i3p7, i3p8, i3p9, i3p20, i3_add, i3_mul, i3_toNat, inA_i3, i3_lt, i3_le, i3_eq, wp_rt]
    refine ⟨by omega, by omega, by omega, by omega, by omega, by omega, ?_⟩
    rw [wp_gP]
    refine ⟨g1, ?_⟩
    obtain ⟨ν, eν⟩ : ∃ ν, ν = tI (tI (tI (tI (tI (tI μ 136 (b + 6) 0 d) 136 (b + 6) 1 m) 136 (b + 6) 2 p) 136 (b + 6) 3 l) 136 (b + 6) 4 g) 136 (b + 6) 5 q := ⟨_, rfl⟩
    rw [← eν]
    have k6 := kr hK 6 135 (by decide)
    have hm : Md [2136] μ ν := by
      rw [eν]
      exact ((((((Md.tI (i := 0) (v := d) k6).tr (Md.tI (i := 1) (v := m) k6)).tr (Md.tI (i := 2) (v := p) k6)).tr (Md.tI (i := 3) (v := l) k6)).tr (Md.tI (i := 4) (v := g) k6)).tr (Md.tI (i := 5) (v := q) k6)).wk rfl
    have Kν := hm.k0 hK
    have e4 : mP ν (64 * 6 + 2) (rl μ b k) = some e := by rw [hm.2.2.2.2.2.2.1]; exact g4
    rw [e4, xpR7 Kν]
    refine q_wp_mono (d3 ν Kν (hm.wf hW rfl).1.2.1 (by rw [hm.2.2.1]; exact d1) (by rw [hm.2.2.2.1]) (by rw [hm.1.ai 128 rfl])) ?_
    rintro r ρ ⟨rfl, hρ⟩
    refine ⟨?_, (hm.tr hρ).wk rfl⟩
    have : q_w6 (aI ν 136 (b + 6)) = wds d m p l g q := by
      funext j
      unfold q_w6 wds
      by_cases hj : j < 6
      · rw [if_pos hj, eν]
        rcases (show j = 0 ∨ j = 1 ∨ j = 2 ∨ j = 3 ∨ j = 4 ∨ j = 5 by omega) with rfl | rfl | rfl | rfl | rfl | rfl <;> simp [aI_tI']
      · rw [if_neg hj, if_neg (by omega), if_neg (by omega), if_neg (by omega), if_neg (by omega), if_neg (by omega), if_neg (by omega)]
    rw [this]
theorem r_ruleOf {μ : Mem} {b : Nat} {v : List q_Ru} {name d m p l g q : Int32} (hK : K0 μ b) (hU : RU μ b v) : q_wp (F_X12_ruleOf (b + 38) name d m p l g q) μ (fun r ν => r = q_rv v name d m p l g q ∧ Md [2352, 812, 813] μ ν) := by
  obtain ⟨h1, h2, h3⟩ := hU
  unfold F_X12_ruleOf
  have gi : ∀ (o : Option Nat), (∀ k, o = some k → k < 30) → ∀ z : Int32, z = (match o with | none => -1 | some k => q_i3 k) → (z = -1 ↔ o = none) := by
    intro o ho z hz
    cases o with
    | none => exact ⟨fun _ => rfl, fun _ => hz⟩
    | some k => exact ⟨fun w => absurd (show q_i3 k = -1 from hz.symm.trans w) (i3_ne_m1 (by have := ho k rfl; omega)), fun w => by cases w⟩
  refine wp_loop (σ := Int32) (fun f k z => F_X12_ruleOf_L6 f (b + 38) name d m p l g q z (q_i3 k)) v.length (fun k z ν => ν = μ ∧ z = (match bestR v name d k with | none => -1 | some k => q_i3 k)) _ ?_ ?_ FU 0 (-1) μ (by omega) (by show _ < 100000; omega) ⟨rfl, rfl⟩
  · rintro f z ν ⟨rfl, hz⟩
    show q_wp (F_X12_ruleOf_L6 (f + 1) (b + 38) name d m p l g q z (q_i3 v.length)) ν _
    unfold F_X12_ruleOf_L6 F_X12_ruleOf_L85
    have hzi := gi (bestR v name d v.length) (fun k hk => by have := bestR_lt hk; omega) z hz
    simp (maxSteps := 2000000) (disch := first | assumption | omega | (simp only [K0_sI, K0_sL, K0_tI, K0_tL, K0_nE]; assumption)) only [wp_bn, xgI11, xgL11, xwI11, xpR11, xgI4, xgL4, xwI4, xpR4, xgI7, xgL7, xwI7, xpR7, xgI12, xgL12, xwI12, xpR12, xgP11_0, xgP11_1, xgP11_2, xgP11_3, xgP11_4, xgP11_5, xgP11_6, xgP11_7, xgP4_0, xl115, xs115, xgP4_9, xl120, xs120, xgP7_0, xgP7_1, xl136, xs136, xgP7_2, xl144, xs144, xgP12_0, xl160, xs160, xgP12_4, xl168, xs168, xgP12_5, xl176, xs176, xgP12_6, xl184, xs184, xgP12_7, xl192, xs192, xgP12_8, xl200, xs200, xgP12_11, xl209, xs209, xgP12_12, xl218, xs218, xgP12_13, xl226, xs226, xgP12_14, xl232, xs232, xgP12_15, xl241, xs241, xgP12_16, xl248, xs248, xgP12_17, xl256, xs256, xgP12_18, xl264, xs264, xgP12_19, xl274, xs274, xgP12_20, xl280, xs280, xgP12_22, xl288, xs288, xgP12_25, xl296, xs296, xgP12_26, xl305, xs305, xgP12_27, xl312, xs312, xgP12_28, xl321, xs321, xgP12_29, xl328, xs328, xgP12_31, xl336, xs336, xgP12_33, xl344, xs344, xgP12_46, xl352, xs352, xgP12_47, xl360, xs360, xgP2_0, xpL2_0, xgP2_1, xpL2_1, xgP2_2, xpL2_2, xgI2, xwZ2, xpR2, xmo, xpL_5, xpL_33, xpL_34, xpL_35, xpL_36, xpL_37, Nat.reduceMul, Nat.reduceAdd, h1, wp_ite, i3m2, i3m4, i3m5, i3m6, i3m7, i3m12, i3m60, i3m72, i3m1600, i3r6, i3p1, i3p2, i3p3, i3p4, i3p5, i3p6, i3p7, i3p8, i3p9, i3p20, i3_add, i3_mul, i3_toNat, inA_i3, i3_lt, i3_le, i3_eq, Nat.le_refl, if_true, wp_rt]
    unfold q_rv
    cases hb : bestR v name d v.length with
    | none =>
      rw [hb] at hzi
      rw [if_neg (fun w => w (hzi.mpr rfl))]
      have hm : Md [2352, 812, 813] ν ν := (Md.rf ν).wk rfl
      by_cases e0 : name = 0
      · rw [if_pos e0]; simp only [e0]; exact ⟨rfl, hm⟩
      · rw [if_neg e0]
        by_cases e3 : name = 3
        · rw [if_neg (fun z => z e3)]; simp only [e3]; exact ⟨rfl, hm⟩
        · rw [if_pos e3]; simp only [e0, e3]; exact ⟨rfl, hm⟩
    | some k =>
      have hk := bestR_lt hb
      rw [hb] at hzi hz
      rw [if_pos (fun w => by have := hzi.mp w; cases this)]
      obtain ⟨g1, g2, g3⟩ := h3 k hk
      simp (maxSteps := 2000000) (disch := first | assumption | omega | (simp only [K0_sI, K0_sL, K0_tI, K0_tL, K0_nE]; assumption)) only [show (0 : Int32) = q_i3 0 from rfl, show (1 : Int32) = q_i3 1 from rfl, show (2 : Int32) = q_i3 2 from rfl, show (3 : Int32) = q_i3 3 from rfl, show (4 : Int32) = q_i3 4 from rfl, show (5 : Int32) = q_i3 5 from rfl, xgI11, xgL11, xwI11, xpR11, xgI4, xgL4, xwI4, xpR4, xgI7, xgL7, xwI7, xpR7, xgI12, xgL12, xwI12, xpR12, xgP11_0, xgP11_1, xgP11_2, xgP11_3, xgP11_4, xgP11_5, xgP11_6, xgP11_7, xgP4_0, xl115, xs115, xgP4_9, xl120, xs120, xgP7_0, xgP7_1, xl136, xs136, xgP7_2, xl144, xs144, xgP12_0, xl160, xs160, xgP12_4, xl168, xs168, xgP12_5, xl176, xs176, xgP12_6, xl184, xs184, xgP12_7, xl192, xs192, xgP12_8, xl200, xs200, xgP12_11, xl209, xs209, xgP12_12, xl218, xs218, xgP12_13, xl226, xs226, xgP12_14, xl232, xs232, xgP12_15, xl241, xs241, xgP12_16, xl248, xs248, xgP12_17, xl256, xs256, xgP12_18, xl264, xs264, xgP12_19, xl274, xs274, xgP12_20, xl280, xs280, xgP12_22, xl288, xs288, xgP12_25, xl296, xs296, xgP12_26, xl305, xs305, xgP12_27, xl312, xs312, xgP12_28, xl321, xs321, xgP12_29, xl328, xs328, xgP12_31, xl336, xs336, xgP12_33, xl344, xs344, xgP12_46, xl352, xs352, xgP12_47, xl360, xs360, xgP2_0, xpL2_0, xgP2_1, xpL2_1, xgP2_2, xpL2_2, xgI2, xwZ2, xpR2, xmo, xpL_5, xpL_33, xpL_34, xpL_35, xpL_36, xpL_37, i3m2, i3m4, i3m5, i3m6, i3m7, i3m12, i3m60, i3m72, i3m1600, i3r6, i3p1, i3p2, i3p3, i3p4, i3p5, i3p6, i3p7, i3p8, i3p9, i3p20, i3_add, i3_mul, i3_toNat, inA_i3, i3_lt, i3_le, i3_eq, Nat.reduceMul, Nat.reduceAdd]
      refine ⟨by omega, by omega, by omega, by omega, by omega, by omega, ?_⟩
      obtain ⟨ρ, eρ⟩ : ∃ ρ, ρ = tI (tI (tI (tI (tI (tI ν 352 (b + 63) 0 d) 352 (b + 63) 1 m) 352 (b + 63) 2 p) 352 (b + 63) 3 l) 352 (b + 63) 4 g) 352 (b + 63) 5 q := ⟨_, rfl⟩
      rw [← eρ]
      have k6 := kr hK 63 351 (by decide)
      have k38 := kr hK 38 12 (by decide)
      have hm : Md [2352] ν ρ := by
        rw [eρ]
        exact ((((((Md.tI (i := 0) (v := d) k6).tr (Md.tI (i := 1) (v := m) k6)).tr (Md.tI (i := 2) (v := p) k6)).tr (Md.tI (i := 3) (v := l) k6)).tr (Md.tI (i := 4) (v := g) k6)).tr (Md.tI (i := 5) (v := q) k6)).wk rfl
      have Kρ := hm.k0 hK
      have hm2 := hm.tr ((Md.sI (f := 813) (v := z) (kr Kρ 38 12 (by decide))).tr (Md.sI (μ := sI ρ 813 (b + 38) z) (f := 812) (v := q_i3 0) (kr Kρ 38 12 (by decide))))
      have K2 := hm2.k0 hK
      refine q_wp_mono (g3 _ K2 (by rw [hm2.1.ai 184 rfl]) (fun i _ => by rw [hm2.1.ai 192 rfl, hm2.1.ai 200 rfl]; exact ⟨rfl, rfl⟩) (by simp only [mI_sI']; simp; exact hz) (by simp only [mI_sI']; simp; rfl)) ?_
      rintro r σ ⟨rfl, hσ⟩
      refine ⟨?_, (hm2.tr hσ).wk rfl⟩
      have : q_w6 (aI (sI (sI ρ 813 (b + 38) z) 812 (b + 38) (q_i3 0)) 352 (b + 63)) = wds d m p l g q := by
        funext j
        unfold q_w6 wds
        by_cases hj : j < 6
        · rw [if_pos hj, aI_sI, aI_sI, eρ]
          rcases (show j = 0 ∨ j = 1 ∨ j = 2 ∨ j = 3 ∨ j = 4 ∨ j = 5 by omega) with rfl | rfl | rfl | rfl | rfl | rfl <;> simp [aI_tI']
        · rw [if_neg hj, if_neg (by omega), if_neg (by omega), if_neg (by omega), if_neg (by omega), if_neg (by omega), if_neg (by omega)]
      rw [this]
  · rintro f k z ν hk ⟨rfl, hz⟩ ih
    show q_wp (F_X12_ruleOf_L6 (f + 1) (b + 38) name d m p l g q z (q_i3 k)) ν _
    unfold F_X12_ruleOf_L6 F_X12_ruleOf_L60 F_X12_ruleOf_L64
    have hzi := gi (bestR v name d k) (fun j hj => by have := bestR_lt hj; omega) z hz
    obtain ⟨g1, g2, g3⟩ := h3 k hk
    have hle : ¬ v.length ≤ k := by omega
    have b1 : k < 30 := by omega
    simp (maxSteps := 2000000) (disch := first | assumption | omega | (simp only [K0_sI, K0_sL, K0_tI, K0_tL, K0_nE]; assumption)) only [wp_bn, xgI11, xgL11, xwI11, xpR11, xgI4, xgL4, xwI4, xpR4, xgI7, xgL7, xwI7, xpR7, xgI12, xgL12, xwI12, xpR12, xgP11_0, xgP11_1, xgP11_2, xgP11_3, xgP11_4, xgP11_5, xgP11_6, xgP11_7, xgP4_0, xl115, xs115, xgP4_9, xl120, xs120, xgP7_0, xgP7_1, xl136, xs136, xgP7_2, xl144, xs144, xgP12_0, xl160, xs160, xgP12_4, xl168, xs168, xgP12_5, xl176, xs176, xgP12_6, xl184, xs184, xgP12_7, xl192, xs192, xgP12_8, xl200, xs200, xgP12_11, xl209, xs209, xgP12_12, xl218, xs218, xgP12_13, xl226, xs226, xgP12_14, xl232, xs232, xgP12_15, xl241, xs241, xgP12_16, xl248, xs248, xgP12_17, xl256, xs256, xgP12_18, xl264, xs264, xgP12_19, xl274, xs274, xgP12_20, xl280, xs280, xgP12_22, xl288, xs288, xgP12_25, xl296, xs296, xgP12_26, xl305, xs305, xgP12_27, xl312, xs312, xgP12_28, xl321, xs321, xgP12_29, xl328, xs328, xgP12_31, xl336, xs336, xgP12_33, xl344, xs344, xgP12_46, xl352, xs352, xgP12_47, xl360, xs360, xgP2_0, xpL2_0, xgP2_1, xpL2_1, xgP2_2, xpL2_2, xgI2, xwZ2, xpR2, xmo, xpL_5, xpL_33, xpL_34, xpL_35, xpL_36, xpL_37, Nat.reduceMul, Nat.reduceAdd, h1, wp_ite, i3m2, i3m4, i3m5, i3m6, i3m7, i3m12, i3m60, i3m72, i3m1600, i3r6, i3p1, i3p2, i3p3, i3p4, i3p5, i3p6, i3p7, i3p8, i3p9, i3p20, i3_add, i3_mul, i3_toNat, inA_i3, i3_lt, i3_le, i3_eq, hle, if_false, b1, true_and, g1, g2]
    have skip : q_fits v name d k = false ∨ (∃ j, bestR v name d k = some j ∧ (v.getD k r0).2.1 < (v.getD j r0).2.1) → q_wp (F_X12_ruleOf_L6 f (b + 38) name d m p l g q z (q_i3 (k + 1))) ν (fun r ρ => r = q_rv v name d m p l g q ∧ Md [2352, 812, 813] ν ρ) := by
      intro h
      refine ih _ ν ⟨rfl, ?_⟩
      have : bestR v name d (k + 1) = bestR v name d k := by
        show (if _ then _ else _) = _
        rcases h with h | ⟨j, hj, hlt⟩
        · rw [h]; rfl
        · rw [hj]; simp only [okR, hlt]; simp
      rw [this]; exact hz
    have take : q_fits v name d k = true → (∀ j, bestR v name d k = some j → ¬ (v.getD k r0).2.1 < (v.getD j r0).2.1) → q_wp (F_X12_ruleOf_L6 f (b + 38) name d m p l g q (q_i3 k) (q_i3 (k + 1))) ν (fun r ρ => r = q_rv v name d m p l g q ∧ Md [2352, 812, 813] ν ρ) := by
      intro h h'
      refine ih _ ν ⟨rfl, ?_⟩
      have : bestR v name d (k + 1) = some k := by
        show (if _ then _ else _) = _
        rw [h]
        cases hb : bestR v name d k with
        | none => rfl
        | some j => simp only [okR, h' j hb]; simp
      rw [this]
    by_cases e1 : (v.getD k r0).1 = name
    · rw [if_neg (fun z => z e1)]
      by_cases e2 : d < (v.getD k r0).2.1
      · rw [if_pos e2]
        exact skip (Or.inl (by unfold q_fits; simp only [e2, decide_true]; simp))
      · rw [if_neg e2]
        have hf : q_fits v name d k = true := by unfold q_fits; simp only [e1, e2, decide_false]; simp
        cases hb : bestR v name d k with
        | none =>
          rw [hb] at take hzi
          rw [if_pos (hzi.mpr rfl)]
          exact take hf (fun j hj => by cases hj)
        | some j =>
          have hj := bestR_lt hb
          obtain ⟨_, q3, _⟩ := h3 j (by omega)
          rw [hb] at take skip hzi hz
          have hz : z = q_i3 j := hz
          rw [if_neg (fun w => by have := hzi.mp w; cases this)]
          rw [hz] at skip ⊢
          rw [inA_i3 (by omega), i3_toNat (by omega), q3]
          refine ⟨by omega, ?_⟩
          by_cases e3 : (v.getD k r0).2.1 < (v.getD j r0).2.1
          · rw [if_pos e3]; exact skip (Or.inr ⟨j, rfl, e3⟩)
          · rw [if_neg e3]; exact take hf (fun i hi => by cases hi; exact e3)
    · rw [if_pos e1]
      exact skip (Or.inl (by unfold q_fits; rw [Bool.and_eq_false_iff]; left; simpa using e1))
