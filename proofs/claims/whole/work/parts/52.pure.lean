def fPos (s : q_St) (p q : Int32) : Option Int32 := if q_inR p (vN (sM s)) ∧ q_inR q 6 then some (vPs (sM s) p.toNatClampNeg q.toNatClampNeg) else none
theorem cOK.nE {b : Nat} {μ : Mem} {s : q_St} (hK : K0 μ b) (hW : WF μ) (h : q_AC μ b s) : cOK μ b s 1 6 (nE μ) := by
  obtain ⟨w, l⟩ := hW.nE
  exact ⟨h.fr (q_Fr.nE μ) rfl (fun o _ => by rw [l]), hK, w, (q_Fr.nE μ).wk rfl, Nat.le_refl _, Nat.le_refl _⟩
theorem c_position {μ : Mem} {b : Nat} {s : q_St} (hK : K0 μ b) (hW : WF μ) (hA : q_AC μ b s) (p q : Int32) : q_wp (F_X11_position b p q) μ (fun r ν => r = fPos s p q ∧ cOK μ b s 1 6 ν) := by
  obtain ⟨hM, hL, hO, hT, hD, hR, hN, hU, hP⟩ := id hA
  unfold F_X11_position F_X11_position_L17 fPos
  simp (maxSteps := 2000000) (disch := first | assumption | omega | (simp only [K0_sI, K0_sL, K0_tI, K0_tL, K0_nE]; assumption)) only [wp_bn, wp_rt, wp_ite, wp_rz, xgI11, xgL11, xwI11, xpR11, xgI4, xgL4, xwI4, xpR4, xgI7, xgL7, xwI7, xpR7, xgI12, xgL12, xwI12, xpR12, xgP11_0, xgP11_1, xgP11_2, xgP11_3, xgP11_4, xgP11_5, xgP11_6, xgP11_7, xgP4_0, xl115, xs115, xgP4_9, xl120, xs120, xgP7_0, xgP7_1, xl136, xs136, xgP7_2, xl144, xs144, xgP12_0, xl160, xs160, xgP12_4, xl168, xs168, xgP12_5, xl176, xs176, xgP12_6, xl184, xs184, xgP12_7, xl192, xs192, xgP12_8, xl200, xs200, xgP12_11, xl209, xs209, xgP12_12, xl218, xs218, xgP12_13, xl226, xs226, xgP12_14, xl232, xs232, xgP12_15, xl241, xs241, xgP12_16, xl248, xs248, xgP12_17, xl256, xs256, xgP12_18, xl264, xs264, xgP12_19, xl274, xs274, xgP12_20, xl280, xs280, xgP12_22, xl288, xs288, xgP12_25, xl296, xs296, xgP12_26, xl305, xs305, xgP12_27, xl312, xs312, xgP12_28, xl321, xs321, xgP12_29, xl328, xs328, xgP12_31, xl336, xs336, xgP12_33, xl344, xs344, xgP12_46, xl352, xs352, xgP12_47, xl360, xs360, xgP2_0, xpL2_0, xgP2_1, xpL2_1, xgP2_2, xpL2_2, xgI2, xwZ2, xpR2, xmo, xpL_5, xpL_33, xpL_34, xpL_35, xpL_36, xpL_37]
  rw [wp_eq (c_memberOf hK hW hM p)]
  by_cases h : q_inR p (vN (sM s))
  · obtain ⟨i, hi, rfl⟩ := inR_i3 h
    have hb : i < 2147483648 := by have := (hW.ls (hK.k 33 14 (by decide))).2.1; have := hM.1; omega
    rw [if_pos h, if_neg (by simp), wp_eq c_isMonth, i3_toNat hb]
    by_cases h2 : q_inR q 6
    · obtain ⟨j, hj, rfl⟩ := inR_i3 h2
      obtain ⟨⟨m1, m2, m3, m4⟩, _, _, _, _, m5⟩ := hM.2 i hi
      rw [if_pos h2, if_pos (by decide), if_pos ⟨h, h2⟩]
      simp only [wp_gP, wp_lI, show mP μ (64 * 1 + 0) (mr μ b i) = some (mr μ b i + 1) from m2, i3_toNat (show j < 2147483648 by omega), m5 j hj]
      exact ⟨m1, m3, inA_of (by omega) (by omega), trivial, cOK.rf hK hW hA⟩
    · rw [if_neg h2, if_neg (by decide), if_neg (fun z => h2 z.2), wp_thr]
      exact ⟨rfl, cOK.nE hK hW hA⟩
  · rw [if_neg h, if_pos rfl, if_neg (fun z => h z.1), wp_thr]
    exact ⟨rfl, cOK.nE hK hW hA⟩
theorem rOK.rf {μ : Mem} {b : Nat} {s : q_St} (h : q_AR μ b s) (h0 : mI μ 803 (b + 38) = 0) : rOK μ b s 0 μ := ⟨h, (Md.rf μ).wk rfl, h0⟩
theorem rOK.t1 {μ : Mem} {b : Nat} {s : q_St} (hK : K0 μ b) (h : q_AR μ b s) : rOK μ b s 1 (sI μ 803 (b + 38) 1) := rOK.th hK h 1
theorem r_start {α : Type} {F : M α} {A : α → Prop} {t s : q_St} {th : Int32} {μ : Mem} {b : Nat} (hK : K0 μ b) (hA : q_AR μ b s) (h : ∀ μ1, K0 μ1 b → q_AR μ1 b s → mI μ1 803 (b + 38) = 0 → q_wp F μ1 (fun r ν => A r ∧ rOK μ1 b t th ν)) : q_wp (bn (wI 12 35 (some (b + 38)) (0 : Int32)) fun _ => F) μ (fun r ν => A r ∧ rOK μ b t th ν) := by
  rw [wp_bn, xwI12 hK]
  refine q_wp_mono (h (sI μ 803 (b + 38) 0) hK (hA.th 0) (by rw [mI_sI']; simp)) ?_
  rintro r ν ⟨h1, h2, h3, h4⟩
  exact ⟨h1, h2, ((Md.sI (f := 803) (v := 0) (kr hK 38 12 (by decide))).tr h3).wk rfl, h4⟩
theorem r_position {μ : Mem} {b c : Nat} {s : q_St} (hK : K0 μ b) (hA : q_AR μ b s) (hI : Iv s c) (p q : Int32) : q_wp (F_X12_position (b + 38) p q) μ (fun r ν => (∀ x, fPos s p q = some x → r = x) ∧ rOK μ b s (if fPos s p q = none then 1 else 0) ν) := by
  have hn := hI.1.1
  unfold F_X12_position F_X12_position_L20
  refine r_start hK hA fun μ hK hA h0 => ?_
  obtain ⟨hM, hL, hO, hT, hD, hR, hN, hU, hP⟩ := id hA
  unfold fPos
  simp (maxSteps := 2000000) (disch := first | assumption | omega | (simp only [K0_sI, K0_sL, K0_tI, K0_tL, K0_nE]; assumption)) only [wp_bn, wp_rt, wp_ite, wp_rz, xgI11, xgL11, xwI11, xpR11, xgI4, xgL4, xwI4, xpR4, xgI7, xgL7, xwI7, xpR7, xgI12, xgL12, xwI12, xpR12, xgP11_0, xgP11_1, xgP11_2, xgP11_3, xgP11_4, xgP11_5, xgP11_6, xgP11_7, xgP4_0, xl115, xs115, xgP4_9, xl120, xs120, xgP7_0, xgP7_1, xl136, xs136, xgP7_2, xl144, xs144, xgP12_0, xl160, xs160, xgP12_4, xl168, xs168, xgP12_5, xl176, xs176, xgP12_6, xl184, xs184, xgP12_7, xl192, xs192, xgP12_8, xl200, xs200, xgP12_11, xl209, xs209, xgP12_12, xl218, xs218, xgP12_13, xl226, xs226, xgP12_14, xl232, xs232, xgP12_15, xl241, xs241, xgP12_16, xl248, xs248, xgP12_17, xl256, xs256, xgP12_18, xl264, xs264, xgP12_19, xl274, xs274, xgP12_20, xl280, xs280, xgP12_22, xl288, xs288, xgP12_25, xl296, xs296, xgP12_26, xl305, xs305, xgP12_27, xl312, xs312, xgP12_28, xl321, xs321, xgP12_29, xl328, xs328, xgP12_31, xl336, xs336, xgP12_33, xl344, xs344, xgP12_46, xl352, xs352, xgP12_47, xl360, xs360, xgP2_0, xpL2_0, xgP2_1, xpL2_1, xgP2_2, xpL2_2, xgI2, xwZ2, xpR2, xmo, xpL_5, xpL_33, xpL_34, xpL_35, xpL_36, xpL_37, Nat.reduceMul, Nat.reduceAdd]
  rw [wp_eq (r_isMember hK hM hn p)]
  by_cases h : q_inR p (vN (sM s))
  · obtain ⟨i, hi, rfl⟩ := inR_i3 h
    rw [if_pos h, if_neg (by decide), wp_eq r_isMonth]
    by_cases h2 : q_inR q 6
    · obtain ⟨j, hj, rfl⟩ := inR_i3 h2
      rw [if_pos h2, if_pos (by decide), if_pos ⟨h, h2⟩]
      simp (maxSteps := 2000000) (disch := first | assumption | omega | (simp only [K0_sI, K0_sL, K0_tI, K0_tL, K0_nE]; assumption)) only [xgI11, xgL11, xwI11, xpR11, xgI4, xgL4, xwI4, xpR4, xgI7, xgL7, xwI7, xpR7, xgI12, xgL12, xwI12, xpR12, xgP11_0, xgP11_1, xgP11_2, xgP11_3, xgP11_4, xgP11_5, xgP11_6, xgP11_7, xgP4_0, xl115, xs115, xgP4_9, xl120, xs120, xgP7_0, xgP7_1, xl136, xs136, xgP7_2, xl144, xs144, xgP12_0, xl160, xs160, xgP12_4, xl168, xs168, xgP12_5, xl176, xs176, xgP12_6, xl184, xs184, xgP12_7, xl192, xs192, xgP12_8, xl200, xs200, xgP12_11, xl209, xs209, xgP12_12, xl218, xs218, xgP12_13, xl226, xs226, xgP12_14, xl232, xs232, xgP12_15, xl241, xs241, xgP12_16, xl248, xs248, xgP12_17, xl256, xs256, xgP12_18, xl264, xs264, xgP12_19, xl274, xs274, xgP12_20, xl280, xs280, xgP12_22, xl288, xs288, xgP12_25, xl296, xs296, xgP12_26, xl305, xs305, xgP12_27, xl312, xs312, xgP12_28, xl321, xs321, xgP12_29, xl328, xs328, xgP12_31, xl336, xs336, xgP12_33, xl344, xs344, xgP12_46, xl352, xs352, xgP12_47, xl360, xs360, xgP2_0, xpL2_0, xgP2_1, xpL2_1, xgP2_2, xpL2_2, xgI2, xwZ2, xpR2, xmo, xpL_5, xpL_33, xpL_34, xpL_35, xpL_36, xpL_37, i3m2, i3m4, i3m5, i3m6, i3m7, i3m12, i3m60, i3m72, i3m1600, i3r6, i3p1, i3p2, i3p3, i3p4, i3p5, i3p6, i3p7, i3p8, i3p9, i3p20, i3_add, i3_mul, i3_toNat, inA_i3, i3_lt, i3_le, i3_eq]
      refine ⟨by omega, ?_, ?_⟩
      · intro x hx; rw [← Option.some.inj hx]
        exact (hM.2 i (by omega)).2.2.2.2 j hj
      · exact rOK.rf hA h0
    · rw [if_neg h2, if_neg (by decide), if_neg (fun z => h2 z.2)]
      simp (maxSteps := 2000000) (disch := first | assumption | omega | (simp only [K0_sI, K0_sL, K0_tI, K0_tL, K0_nE]; assumption)) only [xgI11, xgL11, xwI11, xpR11, xgI4, xgL4, xwI4, xpR4, xgI7, xgL7, xwI7, xpR7, xgI12, xgL12, xwI12, xpR12, xgP11_0, xgP11_1, xgP11_2, xgP11_3, xgP11_4, xgP11_5, xgP11_6, xgP11_7, xgP4_0, xl115, xs115, xgP4_9, xl120, xs120, xgP7_0, xgP7_1, xl136, xs136, xgP7_2, xl144, xs144, xgP12_0, xl160, xs160, xgP12_4, xl168, xs168, xgP12_5, xl176, xs176, xgP12_6, xl184, xs184, xgP12_7, xl192, xs192, xgP12_8, xl200, xs200, xgP12_11, xl209, xs209, xgP12_12, xl218, xs218, xgP12_13, xl226, xs226, xgP12_14, xl232, xs232, xgP12_15, xl241, xs241, xgP12_16, xl248, xs248, xgP12_17, xl256, xs256, xgP12_18, xl264, xs264, xgP12_19, xl274, xs274, xgP12_20, xl280, xs280, xgP12_22, xl288, xs288, xgP12_25, xl296, xs296, xgP12_26, xl305, xs305, xgP12_27, xl312, xs312, xgP12_28, xl321, xs321, xgP12_29, xl328, xs328, xgP12_31, xl336, xs336, xgP12_33, xl344, xs344, xgP12_46, xl352, xs352, xgP12_47, xl360, xs360, xgP2_0, xpL2_0, xgP2_1, xpL2_1, xgP2_2, xpL2_2, xgI2, xwZ2, xpR2, xmo, xpL_5, xpL_33, xpL_34, xpL_35, xpL_36, xpL_37, Nat.reduceMul, Nat.reduceAdd]
      exact ⟨fun x hx => (by cases hx), rOK.t1 hK hA⟩
  · rw [if_neg h, if_pos rfl, if_neg (fun z => h z.1)]
    simp (maxSteps := 2000000) (disch := first | assumption | omega | (simp only [K0_sI, K0_sL, K0_tI, K0_tL, K0_nE]; assumption)) only [xgI11, xgL11, xwI11, xpR11, xgI4, xgL4, xwI4, xpR4, xgI7, xgL7, xwI7, xpR7, xgI12, xgL12, xwI12, xpR12, xgP11_0, xgP11_1, xgP11_2, xgP11_3, xgP11_4, xgP11_5, xgP11_6, xgP11_7, xgP4_0, xl115, xs115, xgP4_9, xl120, xs120, xgP7_0, xgP7_1, xl136, xs136, xgP7_2, xl144, xs144, xgP12_0, xl160, xs160, xgP12_4, xl168, xs168, xgP12_5, xl176, xs176, xgP12_6, xl184, xs184, xgP12_7, xl192, xs192, xgP12_8, xl200, xs200, xgP12_11, xl209, xs209, xgP12_12, xl218, xs218, xgP12_13, xl226, xs226, xgP12_14, xl232, xs232, xgP12_15, xl241, xs241, xgP12_16, xl248, xs248, xgP12_17, xl256, xs256, xgP12_18, xl264, xs264, xgP12_19, xl274, xs274, xgP12_20, xl280, xs280, xgP12_22, xl288, xs288, xgP12_25, xl296, xs296, xgP12_26, xl305, xs305, xgP12_27, xl312, xs312, xgP12_28, xl321, xs321, xgP12_29, xl328, xs328, xgP12_31, xl336, xs336, xgP12_33, xl344, xs344, xgP12_46, xl352, xs352, xgP12_47, xl360, xs360, xgP2_0, xpL2_0, xgP2_1, xpL2_1, xgP2_2, xpL2_2, xgI2, xwZ2, xpR2, xmo, xpL_5, xpL_33, xpL_34, xpL_35, xpL_36, xpL_37, Nat.reduceMul, Nat.reduceAdd]
    exact ⟨fun x hx => (by cases hx), rOK.t1 hK hA⟩
def q_upd {α : Type} (f : Nat → α) (i : Nat) (x : α) : Nat → α := fun j => if j = i then x else f j
def mPaid (v : q_VM) (i : Nat) (x : Int64) : q_VM := (vN v, q_upd (vPd v) i x, vCl v, vFa v, vPs v, vCs v)
def fPay (s : q_St) (p q : Int32) : Option Int64 × q_St := if q_inR p (vN (sM s)) ∧ -1000000 ≤ q.toInt ∧ q.toInt ≤ 1000000 then (some (vPd (sM s) p.toNatClampNeg + q.toInt64), wM s (mPaid (sM s) p.toNatClampNeg (vPd (sM s) p.toNatClampNeg + q.toInt64))) else (none, s)
theorem q_CM.paid {μ : Mem} {b i : Nat} {v : q_VM} (hK : K0 μ b) (hW : WF μ) (h : q_CM μ b v) (hi : i < vN v) (x : Int64) : q_CM (sL μ 66 (mr μ b i) x) b (mPaid v i x) := by
  have hW' := hW.sL (f := 66) (a := mr μ b i) (v := x) (by rw [(h.2 i hi).1.1]; omega) (by omega)
  have el : ∀ j, mr (sL μ 66 (mr μ b i) x) b j = mr μ b j := fun j => congrArg (fun l => l.getD j 0) (congrFun hW'.2 (b + 33))
  refine ⟨by rw [hW'.2]; exact h.1, fun j hj => ?_⟩
  have hj : j < vN v := hj
  obtain ⟨m, q1, q2, q3, q_q4, q5⟩ := h.2 j hj
  rw [el]
  refine ⟨m, ?_, q2, q3, ?_, q5⟩
  · show _ = q_upd (vPd v) i x j
    rw [mL_sL']; unfold q_upd
    by_cases hji : j = i
    · rw [if_pos hji, hji]; simp
    · have : mr μ b j ≠ mr μ b i := fun z => hji (hW.inj (hK.k 33 14 (by decide)) (by rw [h.1]; exact hj) (by rw [h.1]; exact hi) z)
      rw [if_neg hji, if_neg (fun z => this z.2)]; exact q1
  · rw [mL_sL']; simp; exact q_q4
theorem c_pay {μ : Mem} {b c : Nat} {s : q_St} (hK : K0 μ b) (hW : WF μ) (hA : q_AC μ b s) (hI : Iv s c) (p q : Int32) : q_wp (F_X11_pay b p q) μ (fun r ν => r = (fPay s p q).1 ∧ cOK μ b (fPay s p q).2 1 6 ν) := by
  obtain ⟨hM, hL, hO, hT, hD, hR, hN, hU, hP⟩ := id hA
  have hn := hI.1.1
  unfold F_X11_pay F_X11_pay_L22 fPay
  simp (maxSteps := 2000000) (disch := first | assumption | omega | (simp only [K0_sI, K0_sL, K0_tI, K0_tL, K0_nE]; assumption)) only [wp_bn, wp_rt, wp_ite, wp_rz, xgI11, xgL11, xwI11, xpR11, xgI4, xgL4, xwI4, xpR4, xgI7, xgL7, xwI7, xpR7, xgI12, xgL12, xwI12, xpR12, xgP11_0, xgP11_1, xgP11_2, xgP11_3, xgP11_4, xgP11_5, xgP11_6, xgP11_7, xgP4_0, xl115, xs115, xgP4_9, xl120, xs120, xgP7_0, xgP7_1, xl136, xs136, xgP7_2, xl144, xs144, xgP12_0, xl160, xs160, xgP12_4, xl168, xs168, xgP12_5, xl176, xs176, xgP12_6, xl184, xs184, xgP12_7, xl192, xs192, xgP12_8, xl200, xs200, xgP12_11, xl209, xs209, xgP12_12, xl218, xs218, xgP12_13, xl226, xs226, xgP12_14, xl232, xs232, xgP12_15, xl241, xs241, xgP12_16, xl248, xs248, xgP12_17, xl256, xs256, xgP12_18, xl264, xs264, xgP12_19, xl274, xs274, xgP12_20, xl280, xs280, xgP12_22, xl288, xs288, xgP12_25, xl296, xs296, xgP12_26, xl305, xs305, xgP12_27, xl312, xs312, xgP12_28, xl321, xs321, xgP12_29, xl328, xs328, xgP12_31, xl336, xs336, xgP12_33, xl344, xs344, xgP12_46, xl352, xs352, xgP12_47, xl360, xs360, xgP2_0, xpL2_0, xgP2_1, xpL2_1, xgP2_2, xpL2_2, xgI2, xwZ2, xpR2, xmo, xpL_5, xpL_33, xpL_34, xpL_35, xpL_36, xpL_37]
  rw [wp_eq (c_memberOf hK hW hM p)]
  by_cases h : q_inR p (vN (sM s))
  · obtain ⟨i, hi, rfl⟩ := inR_i3 h
    rw [if_pos h, if_neg (by simp), i3_toNat (by omega)]
    have e1 : (-1000000 : Int32).toInt = -1000000 := rfl
    have e2 : (1000000 : Int32).toInt = 1000000 := rfl
    simp only [Int32.lt_iff_toInt_lt, Int32.le_iff_toInt_le, e1, e2]
    by_cases h1 : q.toInt < -1000000
    · rw [if_pos h1, if_neg (by omega), wp_thr]; exact ⟨rfl, cOK.nE hK hW hA⟩
    · rw [if_neg h1]
      by_cases h2 : q.toInt ≤ 1000000
      · rw [if_pos h2, if_pos ⟨h, by omega, h2⟩]
        obtain ⟨⟨m1, m2, m3, m4⟩, m6, _, _, _, m5⟩ := hM.2 i hi
        simp only [wp_gL, wp_wL, mI_sI', mL_sL', mP_sP', aI_tI', aL_tL', aP_tP', mI_sL, mI_sP, mI_tI, mI_tL, mI_tP, mL_sI, mL_sP, mL_tI, mL_tL, mL_tP, mP_sI, mP_sL, mP_tI, mP_tL, mP_tP, aI_sI, aI_sL, aI_sP, aI_tL, aI_tP, aL_sI, aL_sL, aL_sP, aL_tI, aL_tP, aP_sI, aP_sL, aP_sP, aP_tI, aP_tL, mK_sI, mK_sL, mK_sP, mK_tI, mK_tL, mK_tP, mN_sI, mN_sL, mN_sP, mN_tI, mN_tL, mN_tP, mX_sI, mX_sL, mX_sP, mX_tI, mX_tL, mX_tP, mS_sI, mS_sL, mS_sP, mS_tI, mS_tL, mS_tP, mT_sI, mT_sL, mT_sP, mT_tI, mT_tL, mT_tP, Nat.reduceMul, Nat.reduceAdd]
        rw [m6]
        refine ⟨m1, m1, m1, by simp, ?_⟩
        have hC := (Md.sL (f := 66) (v := vPd (sM s) i + q.toInt64) (show mK μ (mr μ b i) ≠ 0 by omega)).cs (b := b) hW rfl
        refine cOK.of hK ⟨hM.paid hK hW hi _, hL.fr hC.2.1 (fun i hi => hC.2.2.1 _ (lgO_lo hi) (lgNo (by decide) hi)) rfl, hO.fr hC.2.1 (fun i hi s => hC.2.2.1 _ (sdO_lo hi s) (sdNo (by decide) hi s)) rfl, hT.fr hC.2.1 (hC.2.2.1 34 (by decide) (by decide)) rfl, hD.fr hC.2.1 (hC.2.2.1 37 (by decide) (by decide)) rfl, hR.fr hC.2.1 (hC.2.2.1 35 (by decide) (by decide)) rfl, hN.fr hC.2.1 (hC.2.2.1 36 (by decide) (by decide)) rfl, hU.fr hC.2.1 (hC.2.2.1 5 (by decide) (by decide)) rfl, hP.fr hC.2.1 rfl⟩ hC rfl rfl
      · rw [if_neg h2, if_neg (by omega), wp_thr]; exact ⟨rfl, cOK.nE hK hW hA⟩
  · rw [if_neg h, if_pos rfl, if_neg (fun z => h z.1), wp_thr]
    exact ⟨rfl, cOK.nE hK hW hA⟩
theorem q_RM.paid {μ : Mem} {b i : Nat} {v : q_VM} (h : q_RM μ b v) (x : Int64) : q_RM (tL μ 209 (b + 45) i x) b (mPaid v i x) := by
  refine ⟨h.1, fun j hj => ?_⟩
  obtain ⟨q1, q2, q3, q_q4, q5⟩ := h.2 j hj
  refine ⟨?_, q2, q3, ?_, q5⟩
  · show _ = q_upd (vPd v) i x j
    rw [aL_tL']; unfold q_upd
    by_cases hji : j = i
    · rw [if_pos hji, if_pos ⟨rfl, rfl, hji⟩]
    · rw [if_neg hji, if_neg (fun z => hji z.2.2)]; exact q1
  · show sm6 (fun j' => aL (tL μ 209 (b + 45) i x) 241 (b + 49) (6 * j + j')) = vCs v j
    rw [show aL (tL μ 209 (b + 45) i x) 241 = aL μ 241 from (q_Fr.tL μ 209 (b + 45) i x).alg 241 rfl]; exact q_q4
theorem r_pay {μ : Mem} {b c : Nat} {s : q_St} (hK : K0 μ b) (hA : q_AR μ b s) (hI : Iv s c) (p q : Int32) : q_wp (F_X12_pay (b + 38) p q) μ (fun r ν => (∀ x, (fPay s p q).1 = some x → r = x) ∧ rOK μ b (fPay s p q).2 (if (fPay s p q).1 = none then 1 else 0) ν) := by
  have hn := hI.1.1
  unfold F_X12_pay F_X12_pay_L27
  refine r_start hK hA fun μ hK hA h0 => ?_
  obtain ⟨hM, hL, hO, hT, hD, hR, hN, hU, hP⟩ := id hA
  unfold fPay
  simp (maxSteps := 2000000) (disch := first | assumption | omega | (simp only [K0_sI, K0_sL, K0_tI, K0_tL, K0_nE]; assumption)) only [wp_bn, wp_rt, wp_ite, wp_rz, xgI11, xgL11, xwI11, xpR11, xgI4, xgL4, xwI4, xpR4, xgI7, xgL7, xwI7, xpR7, xgI12, xgL12, xwI12, xpR12, xgP11_0, xgP11_1, xgP11_2, xgP11_3, xgP11_4, xgP11_5, xgP11_6, xgP11_7, xgP4_0, xl115, xs115, xgP4_9, xl120, xs120, xgP7_0, xgP7_1, xl136, xs136, xgP7_2, xl144, xs144, xgP12_0, xl160, xs160, xgP12_4, xl168, xs168, xgP12_5, xl176, xs176, xgP12_6, xl184, xs184, xgP12_7, xl192, xs192, xgP12_8, xl200, xs200, xgP12_11, xl209, xs209, xgP12_12, xl218, xs218, xgP12_13, xl226, xs226, xgP12_14, xl232, xs232, xgP12_15, xl241, xs241, xgP12_16, xl248, xs248, xgP12_17, xl256, xs256, xgP12_18, xl264, xs264, xgP12_19, xl274, xs274, xgP12_20, xl280, xs280, xgP12_22, xl288, xs288, xgP12_25, xl296, xs296, xgP12_26, xl305, xs305, xgP12_27, xl312, xs312, xgP12_28, xl321, xs321, xgP12_29, xl328, xs328, xgP12_31, xl336, xs336, xgP12_33, xl344, xs344, xgP12_46, xl352, xs352, xgP12_47, xl360, xs360, xgP2_0, xpL2_0, xgP2_1, xpL2_1, xgP2_2, xpL2_2, xgI2, xwZ2, xpR2, xmo, xpL_5, xpL_33, xpL_34, xpL_35, xpL_36, xpL_37, Nat.reduceMul, Nat.reduceAdd]
  rw [wp_eq (r_isMember hK hM hn p)]
  by_cases h : q_inR p (vN (sM s))
  · obtain ⟨i, hi, rfl⟩ := inR_i3 h
    rw [if_pos h, if_neg (by decide), wp_eq in_wp, Int32.toInt_toInt64]
    have e1 : (-1000000 : Int64).toInt = -1000000 := rfl
    have e2 : (1000000 : Int64).toInt = 1000000 := rfl
    rw [e1, e2]
    by_cases h2 : -1000000 ≤ q.toInt ∧ q.toInt ≤ 1000000
    · rw [if_pos h2, if_pos (by decide), if_pos ⟨h, h2⟩]
      have e5 : aL μ 209 (b + 45) i = vPd (sM s) i := (hM.2 i (by omega)).1
      simp (maxSteps := 2000000) (disch := first | assumption | omega | (simp only [K0_sI, K0_sL, K0_tI, K0_tL, K0_nE]; assumption)) only [xgI11, xgL11, xwI11, xpR11, xgI4, xgL4, xwI4, xpR4, xgI7, xgL7, xwI7, xpR7, xgI12, xgL12, xwI12, xpR12, xgP11_0, xgP11_1, xgP11_2, xgP11_3, xgP11_4, xgP11_5, xgP11_6, xgP11_7, xgP4_0, xl115, xs115, xgP4_9, xl120, xs120, xgP7_0, xgP7_1, xl136, xs136, xgP7_2, xl144, xs144, xgP12_0, xl160, xs160, xgP12_4, xl168, xs168, xgP12_5, xl176, xs176, xgP12_6, xl184, xs184, xgP12_7, xl192, xs192, xgP12_8, xl200, xs200, xgP12_11, xl209, xs209, xgP12_12, xl218, xs218, xgP12_13, xl226, xs226, xgP12_14, xl232, xs232, xgP12_15, xl241, xs241, xgP12_16, xl248, xs248, xgP12_17, xl256, xs256, xgP12_18, xl264, xs264, xgP12_19, xl274, xs274, xgP12_20, xl280, xs280, xgP12_22, xl288, xs288, xgP12_25, xl296, xs296, xgP12_26, xl305, xs305, xgP12_27, xl312, xs312, xgP12_28, xl321, xs321, xgP12_29, xl328, xs328, xgP12_31, xl336, xs336, xgP12_33, xl344, xs344, xgP12_46, xl352, xs352, xgP12_47, xl360, xs360, xgP2_0, xpL2_0, xgP2_1, xpL2_1, xgP2_2, xpL2_2, xgI2, xwZ2, xpR2, xmo, xpL_5, xpL_33, xpL_34, xpL_35, xpL_36, xpL_37, i3m2, i3m4, i3m5, i3m6, i3m7, i3m12, i3m60, i3m72, i3m1600, i3r6, i3p1, i3p2, i3p3, i3p4, i3p5, i3p6, i3p7, i3p8, i3p9, i3p20, i3_add, i3_mul, i3_toNat, inA_i3, i3_lt, i3_le, i3_eq, mI_sI', mL_sL', mP_sP', aI_tI', aL_tL', aP_tP', mI_sL, mI_sP, mI_tI, mI_tL, mI_tP, mL_sI, mL_sP, mL_tI, mL_tL, mL_tP, mP_sI, mP_sL, mP_tI, mP_tL, mP_tP, aI_sI, aI_sL, aI_sP, aI_tL, aI_tP, aL_sI, aL_sL, aL_sP, aL_tI, aL_tP, aP_sI, aP_sL, aP_sP, aP_tI, aP_tL, mK_sI, mK_sL, mK_sP, mK_tI, mK_tL, mK_tP, mN_sI, mN_sL, mN_sP, mN_tI, mN_tL, mN_tP, mX_sI, mX_sL, mX_sP, mX_tI, mX_tL, mX_tP, mS_sI, mS_sL, mS_sP, mS_tI, mS_tL, mS_tP, mT_sI, mT_sL, mT_sP, mT_tI, mT_tL, mT_tP, e5]
      have hC := (Md.tL (k := 209) (i := i) (v := vPd (sM s) i + q.toInt64) (kr hK 45 208 (by decide)))
      exact ⟨by omega, by omega, by omega, fun x hx => by rw [← Option.some.inj hx]; simp, rOK.of ⟨hM.paid _, hL.fr hC.1 rfl, hO.fr hC.1 rfl, hT.fr hC.1 rfl, hD.fr hC.1 rfl, hR.fr hC.1 rfl, hN.fr hC.1 rfl, hU.fr hC.1 rfl, hP.fr hC.1 rfl⟩ hC rfl h0⟩
    · rw [if_neg h2, if_neg (by decide), if_neg (fun z => h2 z.2)]
      simp (maxSteps := 2000000) (disch := first | assumption | omega | (simp only [K0_sI, K0_sL, K0_tI, K0_tL, K0_nE]; assumption)) only [xgI11, xgL11, xwI11, xpR11, xgI4, xgL4, xwI4, xpR4, xgI7, xgL7, xwI7, xpR7, xgI12, xgL12, xwI12, xpR12, xgP11_0, xgP11_1, xgP11_2, xgP11_3, xgP11_4, xgP11_5, xgP11_6, xgP11_7, xgP4_0, xl115, xs115, xgP4_9, xl120, xs120, xgP7_0, xgP7_1, xl136, xs136, xgP7_2, xl144, xs144, xgP12_0, xl160, xs160, xgP12_4, xl168, xs168, xgP12_5, xl176, xs176, xgP12_6, xl184, xs184, xgP12_7, xl192, xs192, xgP12_8, xl200, xs200, xgP12_11, xl209, xs209, xgP12_12, xl218, xs218, xgP12_13, xl226, xs226, xgP12_14, xl232, xs232, xgP12_15, xl241, xs241, xgP12_16, xl248, xs248, xgP12_17, xl256, xs256, xgP12_18, xl264, xs264, xgP12_19, xl274, xs274, xgP12_20, xl280, xs280, xgP12_22, xl288, xs288, xgP12_25, xl296, xs296, xgP12_26, xl305, xs305, xgP12_27, xl312, xs312, xgP12_28, xl321, xs321, xgP12_29, xl328, xs328, xgP12_31, xl336, xs336, xgP12_33, xl344, xs344, xgP12_46, xl352, xs352, xgP12_47, xl360, xs360, xgP2_0, xpL2_0, xgP2_1, xpL2_1, xgP2_2, xpL2_2, xgI2, xwZ2, xpR2, xmo, xpL_5, xpL_33, xpL_34, xpL_35, xpL_36, xpL_37, Nat.reduceMul, Nat.reduceAdd]
      exact ⟨fun x hx => (by cases hx), rOK.t1 hK hA⟩
  · rw [if_neg h, if_pos rfl, if_neg (fun z => h z.1)]
    simp (maxSteps := 2000000) (disch := first | assumption | omega | (simp only [K0_sI, K0_sL, K0_tI, K0_tL, K0_nE]; assumption)) only [xgI11, xgL11, xwI11, xpR11, xgI4, xgL4, xwI4, xpR4, xgI7, xgL7, xwI7, xpR7, xgI12, xgL12, xwI12, xpR12, xgP11_0, xgP11_1, xgP11_2, xgP11_3, xgP11_4, xgP11_5, xgP11_6, xgP11_7, xgP4_0, xl115, xs115, xgP4_9, xl120, xs120, xgP7_0, xgP7_1, xl136, xs136, xgP7_2, xl144, xs144, xgP12_0, xl160, xs160, xgP12_4, xl168, xs168, xgP12_5, xl176, xs176, xgP12_6, xl184, xs184, xgP12_7, xl192, xs192, xgP12_8, xl200, xs200, xgP12_11, xl209, xs209, xgP12_12, xl218, xs218, xgP12_13, xl226, xs226, xgP12_14, xl232, xs232, xgP12_15, xl241, xs241, xgP12_16, xl248, xs248, xgP12_17, xl256, xs256, xgP12_18, xl264, xs264, xgP12_19, xl274, xs274, xgP12_20, xl280, xs280, xgP12_22, xl288, xs288, xgP12_25, xl296, xs296, xgP12_26, xl305, xs305, xgP12_27, xl312, xs312, xgP12_28, xl321, xs321, xgP12_29, xl328, xs328, xgP12_31, xl336, xs336, xgP12_33, xl344, xs344, xgP12_46, xl352, xs352, xgP12_47, xl360, xs360, xgP2_0, xpL2_0, xgP2_1, xpL2_1, xgP2_2, xpL2_2, xgI2, xwZ2, xpR2, xmo, xpL_5, xpL_33, xpL_34, xpL_35, xpL_36, xpL_37, Nat.reduceMul, Nat.reduceAdd]
    exact ⟨fun x hx => (by cases hx), rOK.t1 hK hA⟩

def TX (o k W : Nat) (tag : Nat → Nat) (μ : Mem) (b : Nat) (v : q_VT) : Prop := (q_lst μ (b + o)).length = v.1 ∧ ∀ t, t < v.1 → mK μ ((q_lst μ (b + o)).getD t 0) = k ∧ ∀ w, w < W → mI μ (tag w) ((q_lst μ (b + o)).getD t 0) = v.2 t w
theorem CT.tx {μ : Mem} {b : Nat} {v : q_VT} (h : CT μ b v) : TX 34 11 7 (fun w => 640 + w) μ b v := h
theorem CR.tx {μ : Mem} {b : Nat} {v : q_VT} (h : CR μ b v) : TX 35 6 4 (fun w => 320 + w) μ b v := h
theorem q_CN.tx {μ : Mem} {b : Nat} {v : q_VT} (h : q_CN μ b v) : TX 36 4 7 nTag μ b v := h
theorem TX.el {o k W : Nat} {tag : Nat → Nat} {μ : Mem} {b : Nat} {v : q_VT} (h : TX o k W tag μ b v) : ∀ r, r ∈ q_lst μ (b + o) → mK μ r = k := by
  intro r hr
  obtain ⟨i, hi, hri⟩ := List.mem_iff_getElem.mp hr
  have := (h.2 i (by rw [← h.1]; exact hi)).1
  rw [List.getD_eq_getElem?_getD, List.getElem?_eq_getElem hi, Option.getD_some, hri] at this
  exact this
theorem TX.app {o k W r : Nat} {tag : Nat → Nat} {μ ν : Mem} {b : Nat} {v : q_VT} {x : Nat → Int32} (h : TX o k W tag μ b v) (hl : q_lst ν (b + o) = q_lst μ (b + o) ++ [r]) (hk : ∀ a, mK μ a = k → mK ν a = k) (hr : mK ν r = k) (hx : ∀ w, w < W → mI ν (tag w) r = x w) (hs : ∀ w, w < W → ∀ a, a ∈ q_lst μ (b + o) → mI ν (tag w) a = mI μ (tag w) a) : TX o k W tag ν b (v.1 + 1, q_upd v.2 v.1 x) := by
  obtain ⟨h1, h2⟩ := h
  refine ⟨by rw [hl, List.length_append, h1]; rfl, fun t ht => ?_⟩
  have ht : t < v.1 + 1 := ht
  rw [hl]
  show _ ∧ ∀ w, w < W → _ = q_upd v.2 v.1 x t w
  unfold q_upd
  by_cases htn : t = v.1
  · subst htn
    rw [← h1, getD_app2, if_pos rfl]
    exact ⟨hr, hx⟩
  · rw [getD_app1 (by omega), if_neg htn]
    obtain ⟨g1, g2⟩ := h2 t (by omega)
    exact ⟨hk _ g1, fun w hw => by rw [hs w hw _ (getD_mem (by omega))]; exact g2 w hw⟩
def upd2 (f : Nat → Nat → Int32) (i w : Nat) (x : Int32) : Nat → Nat → Int32 := fun j u => if j = i ∧ u = w then x else f j u
theorem TX.set {o k W i w : Nat} {tag : Nat → Nat} {μ : Mem} {b : Nat} {v : q_VT} {x : Int32} (hW : WF μ) (ha : mK μ (b + o) = 14) (h : TX o k W tag μ b v) (hi : i < v.1) (hw : w < W) (hk : k ≠ 0) (hin : ∀ u, u < W → tag u = tag w → u = w) (h832 : tag w < 833) : TX o k W tag (sI μ (tag w) ((q_lst μ (b + o)).getD i 0) x) b (v.1, upd2 v.2 i w x) := by
  obtain ⟨h1, h2⟩ := h
  have hW' := hW.sI (f := tag w) (a := (q_lst μ (b + o)).getD i 0) (v := x) (by rw [(h2 i hi).1]; exact hk) h832
  unfold TX
  rw [hW'.2]
  refine ⟨h1, fun t ht => ?_⟩
  have ht : t < v.1 := ht
  obtain ⟨g1, g2⟩ := h2 t ht
  refine ⟨g1, fun u hu => ?_⟩
  rw [mI_sI']
  show _ = upd2 v.2 i w x t u
  unfold upd2
  by_cases hq : t = i ∧ u = w
  · rw [if_pos hq, if_pos ⟨by rw [hq.2], by rw [hq.1]⟩]
  · rw [if_neg hq, if_neg (fun z => hq ⟨hW.inj ha (by omega) (by omega) z.2, hin u hu z.1⟩)]
    exact g2 u hu
def RX (f k o W : Nat) (μ : Mem) (b : Nat) (v : q_VT) : Prop := mI μ f (b + 38) = q_i3 v.1 ∧ ∀ t, t < v.1 → ∀ w, w < W → aI μ k (b + o) (W * t + w) = v.2 t w
theorem RX.set {f k o W i w : Nat} {μ : Mem} {b : Nat} {v : q_VT} {x : Int32} (h : RX f k o W μ b v) (hi : i < v.1) (hw : w < W) : RX f k o W (tI μ k (b + o) (W * i + w) x) b (v.1, upd2 v.2 i w x) := by
  refine ⟨h.1, fun t ht u hu => ?_⟩
  rw [aI_tI']
  show _ = upd2 v.2 i w x t u
  unfold upd2
  by_cases hq : t = i ∧ u = w
  · rw [if_pos hq, if_pos ⟨rfl, rfl, by rw [hq.1, hq.2]⟩]
  · have hne : W * t + u ≠ W * i + w := by
      intro z
      rcases Nat.lt_trichotomy t i with q | q | q
      · have : W * (t + 1) ≤ W * i := Nat.mul_le_mul_left W q
        rw [Nat.mul_add] at this; omega
      · subst q; exact hq ⟨rfl, by omega⟩
      · have : W * (i + 1) ≤ W * t := Nat.mul_le_mul_left W q
        rw [Nat.mul_add] at this; omega
    rw [if_neg hq, if_neg (fun z => hne z.2.2)]
    exact h.2 t ht u hu
def tabAt (v : q_VT) (W : Nat) (p q : Int32) : Int32 := if q_inR p v.1 ∧ q_inR q W then v.2 p.toNatClampNeg q.toNatClampNeg else -1
theorem c_tradeOf {μ : Mem} {b : Nat} {v : q_VT} (hK : K0 μ b) (hW : WF μ) (h : CT μ b v) (p : Int32) : F_X11_tradeOf b p μ = some (if q_inR p v.1 then some ((q_lst μ (b + 34)).getD p.toNatClampNeg 0) else none, μ) :=
  of_list (f := 4) (a := b + 34) hW (kk11 hK) (hK.p 708 0 34 (by decide)) (hK.k 34 14 (by decide)) h.1 h.tx.el
theorem c_receiptOf {μ : Mem} {b : Nat} {v : q_VT} (hK : K0 μ b) (hW : WF μ) (h : CR μ b v) (p : Int32) : F_X11_receiptOf b p μ = some (if q_inR p v.1 then some ((q_lst μ (b + 35)).getD p.toNatClampNeg 0) else none, μ) :=
  of_list (f := 5) (a := b + 35) hW (kk11 hK) (hK.p 709 0 35 (by decide)) (hK.k 35 14 (by decide)) h.1 h.tx.el
theorem c_noticeOf {μ : Mem} {b : Nat} {v : q_VT} (hK : K0 μ b) (hW : WF μ) (h : q_CN μ b v) (p : Int32) : F_X11_noticeOf b p μ = some (if q_inR p v.1 then some ((q_lst μ (b + 36)).getD p.toNatClampNeg 0) else none, μ) :=
  of_list (f := 6) (a := b + 36) hW (kk11 hK) (hK.p 710 0 36 (by decide)) (hK.k 36 14 (by decide)) h.1 h.tx.el
theorem ne_lit {q : Int32} {W : Nat} (h : ¬ q_inR q W) (i : Nat) (hi : i < W) (hW : W < 2147483648) : ¬ q = q_i3 i := by
  rintro rfl; exact h (i3_inR hi hW)
theorem c_trade {μ : Mem} {b c : Nat} {s : q_St} (hK : K0 μ b) (hW : WF μ) (hA : q_AC μ b s) (hI : Iv s c) (p q : Int32) : q_wp (F_X11_trade b p q) μ (fun r ν => r = tabAt (sT s) 7 p q ∧ cOK μ b s 0 0 ν) := by
  obtain ⟨hM, hL, hO, hT, hD, hR, hN, hU, hP⟩ := id hA
  obtain ⟨R, eR⟩ : ∃ R, R = tabAt (sT s) 7 p q := ⟨_, rfl⟩
  rw [← eR]
  unfold F_X11_trade
  rw [wp_bn, xpR11 hK, wp_bn, wp_eq (c_tradeOf hK hW hT p)]
  have hok := cOK.rf (x := 0) (y := 0) hK hW hA
  have hn := hI.2.2.2.1.1
  unfold tabAt at eR
  by_cases h : q_inR p (sT s).1
  · obtain ⟨i, hi, rfl⟩ := inR_i3 h
    rw [if_pos h, i3_toNat (by omega), wp_ite, if_pos (by simp)]
    obtain ⟨g1, g2⟩ := hT.2 i hi
    by_cases h2 : q_inR q 7
    · obtain ⟨j, hj, rfl⟩ := inR_i3 h2
      rw [if_pos ⟨h, h2⟩, i3_toNat (by omega), i3_toNat (by omega)] at eR
      rcases (show j = 0 ∨ j = 1 ∨ j = 2 ∨ j = 3 ∨ j = 4 ∨ j = 5 ∨ j = 6 by omega) with rfl | rfl | rfl | rfl | rfl | rfl | rfl
      · simp (decide := true) only [swF_cons, swF_nil, wp_bn, wp_rt, wp_ite, wp_gI, true_and, if_true, if_false, g1]; exact ⟨by rw [eR]; exact g2 0 (by omega), hok⟩
      · simp (decide := true) only [swF_cons, swF_nil, wp_bn, wp_rt, wp_ite, wp_gI, true_and, if_true, if_false, g1]; exact ⟨by rw [eR]; exact g2 1 (by omega), hok⟩
      · simp (decide := true) only [swF_cons, swF_nil, wp_bn, wp_rt, wp_ite, wp_gI, true_and, if_true, if_false, g1]; exact ⟨by rw [eR]; exact g2 2 (by omega), hok⟩
      · simp (decide := true) only [swF_cons, swF_nil, wp_bn, wp_rt, wp_ite, wp_gI, true_and, if_true, if_false, g1]; exact ⟨by rw [eR]; exact g2 3 (by omega), hok⟩
      · simp (decide := true) only [swF_cons, swF_nil, wp_bn, wp_rt, wp_ite, wp_gI, true_and, if_true, if_false, g1]; exact ⟨by rw [eR]; exact g2 4 (by omega), hok⟩
      · simp (decide := true) only [swF_cons, swF_nil, wp_bn, wp_rt, wp_ite, wp_gI, true_and, if_true, if_false, g1]; exact ⟨by rw [eR]; exact g2 5 (by omega), hok⟩
      · have g3 := (hI.2.2.2.1.2.1 i hi).2.2.2.2.2.2.2.2
        have e6 : mI μ (64 * 10 + 6) ((q_lst μ (b + 34)).getD i 0) = (sT s).2 i 6 := g2 6 (by omega)
        simp (decide := true) only [swF_cons, swF_nil, wp_bn, wp_rt, wp_ite, wp_gI, true_and, if_true, if_false, g1, e6]
        rcases g3 with e | e
        · rw [e] at eR ⊢; simp (decide := true) only [if_true]; exact ⟨eR.symm, hok⟩
        · rw [e] at eR ⊢; simp (decide := true) only [if_false]; exact ⟨eR.symm, hok⟩
    · rw [if_neg (fun z => h2 z.2)] at eR
      have n0 : ¬ q = 0 := ne_lit h2 0 (by omega) (by omega); have n1 : ¬ q = 1 := ne_lit h2 1 (by omega) (by omega); have n2 : ¬ q = 2 := ne_lit h2 2 (by omega) (by omega); have n3 : ¬ q = 3 := ne_lit h2 3 (by omega) (by omega); have n4 : ¬ q = 4 := ne_lit h2 4 (by omega) (by omega); have n5 : ¬ q = 5 := ne_lit h2 5 (by omega) (by omega); have n6 : ¬ q = 6 := ne_lit h2 6 (by omega) (by omega)
      simp only [swF_cons, swF_nil, wp_bn, wp_rt, wp_ite, wp_gI, true_and, if_true, if_false, n0, n1, n2, n3, n4, n5, n6]; exact ⟨eR.symm, hok⟩
  · rw [if_neg h, wp_ite, if_neg (by simp), wp_rt, eR, if_neg (fun z => h z.1)]; exact ⟨rfl, hok⟩
theorem c_stored {μ : Mem} {b c : Nat} {s : q_St} (hK : K0 μ b) (hW : WF μ) (hA : q_AC μ b s) (hI : Iv s c) (p q : Int32) : q_wp (F_X11_stored b p q) μ (fun r ν => r = tabAt (sR s) 4 p q ∧ cOK μ b s 0 0 ν) := by
  obtain ⟨hM, hL, hO, hT, hD, hR, hN, hU, hP⟩ := id hA
  obtain ⟨R, eR⟩ : ∃ R, R = tabAt (sR s) 4 p q := ⟨_, rfl⟩
  rw [← eR]
  unfold F_X11_stored
  rw [wp_bn, xpR11 hK, wp_bn, wp_eq (c_receiptOf hK hW hR p)]
  have hok := cOK.rf (x := 0) (y := 0) hK hW hA
  have hn := hI.2.2.2.2.2.1.1
  unfold tabAt at eR
  by_cases h : q_inR p (sR s).1
  · obtain ⟨i, hi, rfl⟩ := inR_i3 h
    rw [if_pos h, i3_toNat (by omega), wp_ite, if_pos (by simp)]
    obtain ⟨g1, g2⟩ := hR.2 i hi
    by_cases h2 : q_inR q 4
    · obtain ⟨j, hj, rfl⟩ := inR_i3 h2
      rw [if_pos ⟨h, h2⟩, i3_toNat (by omega), i3_toNat (by omega)] at eR
      rcases (show j = 0 ∨ j = 1 ∨ j = 2 ∨ j = 3 by omega) with rfl | rfl | rfl | rfl
      · simp (decide := true) only [swF_cons, swF_nil, wp_bn, wp_rt, wp_ite, wp_gI, true_and, if_true, if_false, g1]; exact ⟨by rw [eR]; exact g2 0 (by omega), hok⟩
      · simp (decide := true) only [swF_cons, swF_nil, wp_bn, wp_rt, wp_ite, wp_gI, true_and, if_true, if_false, g1]; exact ⟨by rw [eR]; exact g2 1 (by omega), hok⟩
      · simp (decide := true) only [swF_cons, swF_nil, wp_bn, wp_rt, wp_ite, wp_gI, true_and, if_true, if_false, g1]; exact ⟨by rw [eR]; exact g2 2 (by omega), hok⟩
      · have g3 := (hI.2.2.2.2.2.1.2 i hi).2
        have e6 : mI μ (64 * 5 + 3) ((q_lst μ (b + 35)).getD i 0) = (sR s).2 i 3 := g2 3 (by omega)
        simp (decide := true) only [swF_cons, swF_nil, wp_bn, wp_rt, wp_ite, wp_gI, true_and, if_true, if_false, g1, e6]
        rcases g3 with e | e
        · rw [e] at eR ⊢; simp (decide := true) only [if_true]; exact ⟨eR.symm, hok⟩
        · rw [e] at eR ⊢; simp (decide := true) only [if_false]; exact ⟨eR.symm, hok⟩
    · rw [if_neg (fun z => h2 z.2)] at eR
      have n0 : ¬ q = 0 := ne_lit h2 0 (by omega) (by omega); have n1 : ¬ q = 1 := ne_lit h2 1 (by omega) (by omega); have n2 : ¬ q = 2 := ne_lit h2 2 (by omega) (by omega); have n3 : ¬ q = 3 := ne_lit h2 3 (by omega) (by omega)
      simp only [swF_cons, swF_nil, wp_bn, wp_rt, wp_ite, wp_gI, true_and, if_true, if_false, n0, n1, n2, n3]; exact ⟨eR.symm, hok⟩
  · rw [if_neg h, wp_ite, if_neg (by simp), wp_rt, eR, if_neg (fun z => h z.1)]; exact ⟨rfl, hok⟩
theorem c_told {μ : Mem} {b c : Nat} {s : q_St} (hK : K0 μ b) (hW : WF μ) (hA : q_AC μ b s) (hI : Iv s c) (p q : Int32) : q_wp (F_X11_told b p q) μ (fun r ν => r = tabAt (q_sN s) 6 p q ∧ cOK μ b s 0 0 ν) := by
  obtain ⟨hM, hL, hO, hT, hD, hR, hN, hU, hP⟩ := id hA
  obtain ⟨R, eR⟩ : ∃ R, R = tabAt (q_sN s) 6 p q := ⟨_, rfl⟩
  rw [← eR]
  unfold F_X11_told
  rw [wp_bn, xpR11 hK, wp_bn, wp_eq (c_noticeOf hK hW hN p)]
  have hok := cOK.rf (x := 0) (y := 0) hK hW hA
  have hn := hI.2.2.2.2.2.2.1.1
  unfold tabAt at eR
  by_cases h : q_inR p (q_sN s).1
  · obtain ⟨i, hi, rfl⟩ := inR_i3 h
    rw [if_pos h, i3_toNat (by omega), wp_ite, if_pos (by simp)]
    obtain ⟨g1, g2⟩ := hN.2 i hi
    by_cases h2 : q_inR q 6
    · obtain ⟨j, hj, rfl⟩ := inR_i3 h2
      rw [if_pos ⟨h, h2⟩, i3_toNat (by omega), i3_toNat (by omega)] at eR
      rcases (show j = 0 ∨ j = 1 ∨ j = 2 ∨ j = 3 ∨ j = 4 ∨ j = 5 by omega) with rfl | rfl | rfl | rfl | rfl | rfl
      · simp (decide := true) only [swF_cons, swF_nil, wp_bn, wp_rt, wp_ite, wp_gI, true_and, if_true, if_false, g1]; exact ⟨by rw [eR]; exact g2 0 (by omega), hok⟩
      · simp (decide := true) only [swF_cons, swF_nil, wp_bn, wp_rt, wp_ite, wp_gI, true_and, if_true, if_false, g1]; exact ⟨by rw [eR]; exact g2 1 (by omega), hok⟩
      · simp (decide := true) only [swF_cons, swF_nil, wp_bn, wp_rt, wp_ite, wp_gI, true_and, if_true, if_false, g1]; exact ⟨by rw [eR]; exact g2 2 (by omega), hok⟩
      · simp (decide := true) only [swF_cons, swF_nil, wp_bn, wp_rt, wp_ite, wp_gI, true_and, if_true, if_false, g1]; exact ⟨by rw [eR]; exact g2 3 (by omega), hok⟩
      · simp (decide := true) only [swF_cons, swF_nil, wp_bn, wp_rt, wp_ite, wp_gI, true_and, if_true, if_false, g1]; exact ⟨by rw [eR]; exact g2 4 (by omega), hok⟩
      · simp (decide := true) only [swF_cons, swF_nil, wp_bn, wp_rt, wp_ite, wp_gI, true_and, if_true, if_false, g1]; exact ⟨by rw [eR]; exact g2 5 (by omega), hok⟩
    · rw [if_neg (fun z => h2 z.2)] at eR
      have n0 : ¬ q = 0 := ne_lit h2 0 (by omega) (by omega); have n1 : ¬ q = 1 := ne_lit h2 1 (by omega) (by omega); have n2 : ¬ q = 2 := ne_lit h2 2 (by omega) (by omega); have n3 : ¬ q = 3 := ne_lit h2 3 (by omega) (by omega); have n4 : ¬ q = 4 := ne_lit h2 4 (by omega) (by omega); have n5 : ¬ q = 5 := ne_lit h2 5 (by omega) (by omega)
      simp only [swF_cons, swF_nil, wp_bn, wp_rt, wp_ite, wp_gI, true_and, if_true, if_false, n0, n1, n2, n3, n4, n5]; exact ⟨eR.symm, hok⟩
  · rw [if_neg h, wp_ite, if_neg (by simp), wp_rt, eR, if_neg (fun z => h z.1)]; exact ⟨rfl, hok⟩
theorem r_trade {μ : Mem} {b c : Nat} {s : q_St} (hK : K0 μ b) (hA : q_AR μ b s) (hI : Iv s c) (p q : Int32) : q_wp (F_X12_trade (b + 38) p q) μ (fun r ν => r = tabAt (sT s) 7 p q ∧ rOK μ b s 0 ν) := by
  have hn := hI.2.2.2.1.1
  unfold F_X12_trade
  refine r_start hK hA fun μ hK hA h0 => ?_
  obtain ⟨hM, hL, hO, hT, hD, hR, hN, hU, hP⟩ := id hA
  unfold tabAt
  simp (maxSteps := 2000000) (disch := first | assumption | omega | (simp only [K0_sI, K0_sL, K0_tI, K0_tL, K0_nE]; assumption)) only [wp_bn, wp_rt, wp_ite, wp_rz, xgI11, xgL11, xwI11, xpR11, xgI4, xgL4, xwI4, xpR4, xgI7, xgL7, xwI7, xpR7, xgI12, xgL12, xwI12, xpR12, xgP11_0, xgP11_1, xgP11_2, xgP11_3, xgP11_4, xgP11_5, xgP11_6, xgP11_7, xgP4_0, xl115, xs115, xgP4_9, xl120, xs120, xgP7_0, xgP7_1, xl136, xs136, xgP7_2, xl144, xs144, xgP12_0, xl160, xs160, xgP12_4, xl168, xs168, xgP12_5, xl176, xs176, xgP12_6, xl184, xs184, xgP12_7, xl192, xs192, xgP12_8, xl200, xs200, xgP12_11, xl209, xs209, xgP12_12, xl218, xs218, xgP12_13, xl226, xs226, xgP12_14, xl232, xs232, xgP12_15, xl241, xs241, xgP12_16, xl248, xs248, xgP12_17, xl256, xs256, xgP12_18, xl264, xs264, xgP12_19, xl274, xs274, xgP12_20, xl280, xs280, xgP12_22, xl288, xs288, xgP12_25, xl296, xs296, xgP12_26, xl305, xs305, xgP12_27, xl312, xs312, xgP12_28, xl321, xs321, xgP12_29, xl328, xs328, xgP12_31, xl336, xs336, xgP12_33, xl344, xs344, xgP12_46, xl352, xs352, xgP12_47, xl360, xs360, xgP2_0, xpL2_0, xgP2_1, xpL2_1, xgP2_2, xpL2_2, xgI2, xwZ2, xpR2, xmo, xpL_5, xpL_33, xpL_34, xpL_35, xpL_36, xpL_37, Nat.reduceMul, Nat.reduceAdd, hT.1]
  rw [wp_eq (in_cnt (by omega))]
  by_cases h : q_inR p (sT s).1
  · obtain ⟨i, hi, rfl⟩ := inR_i3 h
    rw [if_pos h, if_neg (by decide), wp_eq (in_lit (n := 7) rfl)]
    by_cases h2 : q_inR q 7
    · obtain ⟨j, hj, rfl⟩ := inR_i3 h2
      rw [if_pos h2, if_neg (by decide), if_pos ⟨h, h2⟩]
      simp (maxSteps := 2000000) (disch := first | assumption | omega | (simp only [K0_sI, K0_sL, K0_tI, K0_tL, K0_nE]; assumption)) only [xgI11, xgL11, xwI11, xpR11, xgI4, xgL4, xwI4, xpR4, xgI7, xgL7, xwI7, xpR7, xgI12, xgL12, xwI12, xpR12, xgP11_0, xgP11_1, xgP11_2, xgP11_3, xgP11_4, xgP11_5, xgP11_6, xgP11_7, xgP4_0, xl115, xs115, xgP4_9, xl120, xs120, xgP7_0, xgP7_1, xl136, xs136, xgP7_2, xl144, xs144, xgP12_0, xl160, xs160, xgP12_4, xl168, xs168, xgP12_5, xl176, xs176, xgP12_6, xl184, xs184, xgP12_7, xl192, xs192, xgP12_8, xl200, xs200, xgP12_11, xl209, xs209, xgP12_12, xl218, xs218, xgP12_13, xl226, xs226, xgP12_14, xl232, xs232, xgP12_15, xl241, xs241, xgP12_16, xl248, xs248, xgP12_17, xl256, xs256, xgP12_18, xl264, xs264, xgP12_19, xl274, xs274, xgP12_20, xl280, xs280, xgP12_22, xl288, xs288, xgP12_25, xl296, xs296, xgP12_26, xl305, xs305, xgP12_27, xl312, xs312, xgP12_28, xl321, xs321, xgP12_29, xl328, xs328, xgP12_31, xl336, xs336, xgP12_33, xl344, xs344, xgP12_46, xl352, xs352, xgP12_47, xl360, xs360, xgP2_0, xpL2_0, xgP2_1, xpL2_1, xgP2_2, xpL2_2, xgI2, xwZ2, xpR2, xmo, xpL_5, xpL_33, xpL_34, xpL_35, xpL_36, xpL_37, i3m2, i3m4, i3m5, i3m6, i3m7, i3m12, i3m60, i3m72, i3m1600, i3r6, i3p1, i3p2, i3p3, i3p4, i3p5, i3p6, i3p7, i3p8, i3p9, i3p20, i3_add, i3_mul, i3_toNat, inA_i3, i3_lt, i3_le, i3_eq]
      exact ⟨by omega, hT.2 i hi j (by omega), rOK.rf hA h0⟩
    · rw [if_neg h2, if_pos rfl, if_neg (fun z => h2 z.2)]; exact ⟨rfl, rOK.rf hA h0⟩
  · rw [if_neg h, if_pos rfl, if_neg (fun z => h z.1)]; exact ⟨rfl, rOK.rf hA h0⟩
theorem r_stored {μ : Mem} {b c : Nat} {s : q_St} (hK : K0 μ b) (hA : q_AR μ b s) (hI : Iv s c) (p q : Int32) : q_wp (F_X12_stored (b + 38) p q) μ (fun r ν => r = tabAt (sR s) 4 p q ∧ rOK μ b s 0 ν) := by
  have hn := hI.2.2.2.2.2.1.1
  unfold F_X12_stored
  refine r_start hK hA fun μ hK hA h0 => ?_
  obtain ⟨hM, hL, hO, hT, hD, hR, hN, hU, hP⟩ := id hA
  unfold tabAt
  simp (maxSteps := 2000000) (disch := first | assumption | omega | (simp only [K0_sI, K0_sL, K0_tI, K0_tL, K0_nE]; assumption)) only [wp_bn, wp_rt, wp_ite, wp_rz, xgI11, xgL11, xwI11, xpR11, xgI4, xgL4, xwI4, xpR4, xgI7, xgL7, xwI7, xpR7, xgI12, xgL12, xwI12, xpR12, xgP11_0, xgP11_1, xgP11_2, xgP11_3, xgP11_4, xgP11_5, xgP11_6, xgP11_7, xgP4_0, xl115, xs115, xgP4_9, xl120, xs120, xgP7_0, xgP7_1, xl136, xs136, xgP7_2, xl144, xs144, xgP12_0, xl160, xs160, xgP12_4, xl168, xs168, xgP12_5, xl176, xs176, xgP12_6, xl184, xs184, xgP12_7, xl192, xs192, xgP12_8, xl200, xs200, xgP12_11, xl209, xs209, xgP12_12, xl218, xs218, xgP12_13, xl226, xs226, xgP12_14, xl232, xs232, xgP12_15, xl241, xs241, xgP12_16, xl248, xs248, xgP12_17, xl256, xs256, xgP12_18, xl264, xs264, xgP12_19, xl274, xs274, xgP12_20, xl280, xs280, xgP12_22, xl288, xs288, xgP12_25, xl296, xs296, xgP12_26, xl305, xs305, xgP12_27, xl312, xs312, xgP12_28, xl321, xs321, xgP12_29, xl328, xs328, xgP12_31, xl336, xs336, xgP12_33, xl344, xs344, xgP12_46, xl352, xs352, xgP12_47, xl360, xs360, xgP2_0, xpL2_0, xgP2_1, xpL2_1, xgP2_2, xpL2_2, xgI2, xwZ2, xpR2, xmo, xpL_5, xpL_33, xpL_34, xpL_35, xpL_36, xpL_37, Nat.reduceMul, Nat.reduceAdd, hR.1]
  rw [wp_eq (in_cnt (by omega))]
  by_cases h : q_inR p (sR s).1
  · obtain ⟨i, hi, rfl⟩ := inR_i3 h
    rw [if_pos h, if_neg (by decide), wp_eq (in_lit (n := 4) rfl)]
    by_cases h2 : q_inR q 4
    · obtain ⟨j, hj, rfl⟩ := inR_i3 h2
      rw [if_pos h2, if_neg (by decide), if_pos ⟨h, h2⟩]
      simp (maxSteps := 2000000) (disch := first | assumption | omega | (simp only [K0_sI, K0_sL, K0_tI, K0_tL, K0_nE]; assumption)) only [xgI11, xgL11, xwI11, xpR11, xgI4, xgL4, xwI4, xpR4, xgI7, xgL7, xwI7, xpR7, xgI12, xgL12, xwI12, xpR12, xgP11_0, xgP11_1, xgP11_2, xgP11_3, xgP11_4, xgP11_5, xgP11_6, xgP11_7, xgP4_0, xl115, xs115, xgP4_9, xl120, xs120, xgP7_0, xgP7_1, xl136, xs136, xgP7_2, xl144, xs144, xgP12_0, xl160, xs160, xgP12_4, xl168, xs168, xgP12_5, xl176, xs176, xgP12_6, xl184, xs184, xgP12_7, xl192, xs192, xgP12_8, xl200, xs200, xgP12_11, xl209, xs209, xgP12_12, xl218, xs218, xgP12_13, xl226, xs226, xgP12_14, xl232, xs232, xgP12_15, xl241, xs241, xgP12_16, xl248, xs248, xgP12_17, xl256, xs256, xgP12_18, xl264, xs264, xgP12_19, xl274, xs274, xgP12_20, xl280, xs280, xgP12_22, xl288, xs288, xgP12_25, xl296, xs296, xgP12_26, xl305, xs305, xgP12_27, xl312, xs312, xgP12_28, xl321, xs321, xgP12_29, xl328, xs328, xgP12_31, xl336, xs336, xgP12_33, xl344, xs344, xgP12_46, xl352, xs352, xgP12_47, xl360, xs360, xgP2_0, xpL2_0, xgP2_1, xpL2_1, xgP2_2, xpL2_2, xgI2, xwZ2, xpR2, xmo, xpL_5, xpL_33, xpL_34, xpL_35, xpL_36, xpL_37, i3m2, i3m4, i3m5, i3m6, i3m7, i3m12, i3m60, i3m72, i3m1600, i3r6, i3p1, i3p2, i3p3, i3p4, i3p5, i3p6, i3p7, i3p8, i3p9, i3p20, i3_add, i3_mul, i3_toNat, inA_i3, i3_lt, i3_le, i3_eq]
      exact ⟨by omega, hR.2 i hi j (by omega), rOK.rf hA h0⟩
    · rw [if_neg h2, if_pos rfl, if_neg (fun z => h2 z.2)]; exact ⟨rfl, rOK.rf hA h0⟩
  · rw [if_neg h, if_pos rfl, if_neg (fun z => h z.1)]; exact ⟨rfl, rOK.rf hA h0⟩
theorem r_told {μ : Mem} {b c : Nat} {s : q_St} (hK : K0 μ b) (hA : q_AR μ b s) (hI : Iv s c) (p q : Int32) : q_wp (F_X12_told (b + 38) p q) μ (fun r ν => r = tabAt (q_sN s) 6 p q ∧ rOK μ b s 0 ν) := by
  have hn := hI.2.2.2.2.2.2.1.1
  unfold F_X12_told
  refine r_start hK hA fun μ hK hA h0 => ?_
  obtain ⟨hM, hL, hO, hT, hD, hR, hN, hU, hP⟩ := id hA
  unfold tabAt
  simp (maxSteps := 2000000) (disch := first | assumption | omega | (simp only [K0_sI, K0_sL, K0_tI, K0_tL, K0_nE]; assumption)) only [wp_bn, wp_rt, wp_ite, wp_rz, xgI11, xgL11, xwI11, xpR11, xgI4, xgL4, xwI4, xpR4, xgI7, xgL7, xwI7, xpR7, xgI12, xgL12, xwI12, xpR12, xgP11_0, xgP11_1, xgP11_2, xgP11_3, xgP11_4, xgP11_5, xgP11_6, xgP11_7, xgP4_0, xl115, xs115, xgP4_9, xl120, xs120, xgP7_0, xgP7_1, xl136, xs136, xgP7_2, xl144, xs144, xgP12_0, xl160, xs160, xgP12_4, xl168, xs168, xgP12_5, xl176, xs176, xgP12_6, xl184, xs184, xgP12_7, xl192, xs192, xgP12_8, xl200, xs200, xgP12_11, xl209, xs209, xgP12_12, xl218, xs218, xgP12_13, xl226, xs226, xgP12_14, xl232, xs232, xgP12_15, xl241, xs241, xgP12_16, xl248, xs248, xgP12_17, xl256, xs256, xgP12_18, xl264, xs264, xgP12_19, xl274, xs274, xgP12_20, xl280, xs280, xgP12_22, xl288, xs288, xgP12_25, xl296, xs296, xgP12_26, xl305, xs305, xgP12_27, xl312, xs312, xgP12_28, xl321, xs321, xgP12_29, xl328, xs328, xgP12_31, xl336, xs336, xgP12_33, xl344, xs344, xgP12_46, xl352, xs352, xgP12_47, xl360, xs360, xgP2_0, xpL2_0, xgP2_1, xpL2_1, xgP2_2, xpL2_2, xgI2, xwZ2, xpR2, xmo, xpL_5, xpL_33, xpL_34, xpL_35, xpL_36, xpL_37, Nat.reduceMul, Nat.reduceAdd, hN.1]
  rw [wp_eq (in_cnt (by omega))]
  by_cases h : q_inR p (q_sN s).1
  · obtain ⟨i, hi, rfl⟩ := inR_i3 h
    rw [if_pos h, if_neg (by decide), wp_eq (in_lit (n := 6) rfl)]
    by_cases h2 : q_inR q 6
    · obtain ⟨j, hj, rfl⟩ := inR_i3 h2
      rw [if_pos h2, if_neg (by decide), if_pos ⟨h, h2⟩]
      simp (maxSteps := 2000000) (disch := first | assumption | omega | (simp only [K0_sI, K0_sL, K0_tI, K0_tL, K0_nE]; assumption)) only [xgI11, xgL11, xwI11, xpR11, xgI4, xgL4, xwI4, xpR4, xgI7, xgL7, xwI7, xpR7, xgI12, xgL12, xwI12, xpR12, xgP11_0, xgP11_1, xgP11_2, xgP11_3, xgP11_4, xgP11_5, xgP11_6, xgP11_7, xgP4_0, xl115, xs115, xgP4_9, xl120, xs120, xgP7_0, xgP7_1, xl136, xs136, xgP7_2, xl144, xs144, xgP12_0, xl160, xs160, xgP12_4, xl168, xs168, xgP12_5, xl176, xs176, xgP12_6, xl184, xs184, xgP12_7, xl192, xs192, xgP12_8, xl200, xs200, xgP12_11, xl209, xs209, xgP12_12, xl218, xs218, xgP12_13, xl226, xs226, xgP12_14, xl232, xs232, xgP12_15, xl241, xs241, xgP12_16, xl248, xs248, xgP12_17, xl256, xs256, xgP12_18, xl264, xs264, xgP12_19, xl274, xs274, xgP12_20, xl280, xs280, xgP12_22, xl288, xs288, xgP12_25, xl296, xs296, xgP12_26, xl305, xs305, xgP12_27, xl312, xs312, xgP12_28, xl321, xs321, xgP12_29, xl328, xs328, xgP12_31, xl336, xs336, xgP12_33, xl344, xs344, xgP12_46, xl352, xs352, xgP12_47, xl360, xs360, xgP2_0, xpL2_0, xgP2_1, xpL2_1, xgP2_2, xpL2_2, xgI2, xwZ2, xpR2, xmo, xpL_5, xpL_33, xpL_34, xpL_35, xpL_36, xpL_37, i3m2, i3m4, i3m5, i3m6, i3m7, i3m12, i3m60, i3m72, i3m1600, i3r6, i3p1, i3p2, i3p3, i3p4, i3p5, i3p6, i3p7, i3p8, i3p9, i3p20, i3_add, i3_mul, i3_toNat, inA_i3, i3_lt, i3_le, i3_eq]
      exact ⟨by omega, hN.2 i hi j (by omega), rOK.rf hA h0⟩
    · rw [if_neg h2, if_pos rfl, if_neg (fun z => h2 z.2)]; exact ⟨rfl, rOK.rf hA h0⟩
  · rw [if_neg h, if_pos rfl, if_neg (fun z => h z.1)]; exact ⟨rfl, rOK.rf hA h0⟩

def Nw (μ ν : Mem) : Prop := WF ν ∧ q_lst ν = q_lst μ ∧ ∀ a, mK ν a = 14 → mK μ a = 14
theorem Nw.rf {μ : Mem} (h : WF μ) : Nw μ μ := ⟨h, rfl, fun _ h => h⟩
theorem Nw.al {μ ν : Mem} (h : Nw μ ν) (k n s : Nat) (hk : k ≠ 14) : Nw μ (q_al k n s ν) := by
  obtain ⟨w, l⟩ := h.1.nw k n s hk
  exact ⟨w, l.trans h.2.1, fun a ha => h.2.2 a (by rw [mK_al] at ha; split at ha; exact absurd ha hk; exact ha)⟩
theorem Nw.sI {μ ν : Mem} (h : Nw μ ν) {f a : Nat} {v : Int32} (ha : mK ν a ≠ 0) (hf : f < 833) : Nw μ (sI ν f a v) := by
  obtain ⟨w, l⟩ := h.1.sI (v := v) ha hf
  exact ⟨w, l.trans h.2.1, h.2.2⟩
theorem Nw.sP {μ ν : Mem} (h : Nw μ ν) {f a : Nat} {v : Option Nat} (ha : mK ν a ≠ 0) (hf : f < 833) : Nw μ (sP ν f a v) := by
  obtain ⟨w, l⟩ := h.1.sP (v := v) ha hf
  exact ⟨w, l.trans h.2.1, h.2.2⟩
theorem Nw.nin {μ ν : Mem} (h : Nw μ ν) (hW : WF μ) {r : Nat} (hr : mX μ ≤ r) : ∀ a, mK ν a = 14 → r ∉ q_lst ν a := fun a ha => by
  rw [h.2.1]; exact hW.nin (h.2.2 a ha) hr
theorem Nw.cs {S : List Nat} {μ ν : Mem} {b x s : Nat} (h : Nw μ ν) (f : q_Fr S μ ν) (hx : mX ν ≤ mX μ + x) (hs : mS ν ≤ mS μ + s) : Cs S [] x s b μ ν := ⟨h.1, f, fun o _ _ => by rw [h.2.1], hx, hs⟩
def fMember (s : q_St) : Int32 × q_St := if vN (sM s) < 12 then (q_i3 (vN (sM s)), wM s (vN (sM s) + 1, (sM s).2)) else (-1, s)
theorem c_member {μ : Mem} {b c : Nat} {s : q_St} (hK : K0 μ b) (hW : WF μ) (hA : q_AC μ b s) (hI : Iv s c) : q_wp (F_X11_member b) μ (fun r ν => r = (fMember s).1 ∧ cOK μ b (fMember s).2 3 100 ν) := by
  obtain ⟨hM, hL, hO, hT, hD, hR, hN, hU, hP⟩ := id hA
  have hn := hI.1.1
  have k33 := hK.k 33 14 (by decide)
  unfold F_X11_member fMember
  rw [wp_bn, xgP11_3 hK, wp_bn, xpL_33 hK, wp_bn, wp_eq (ls_size hW k33), hM.1, wp_ite]
  have hlt : q_i3 (vN (sM s)) < 12 ↔ vN (sM s) < 12 := i3_lt (b := 12) (by omega) (by omega)
  by_cases h : vN (sM s) < 12
  · rw [if_pos (hlt.mpr h), if_pos h]
    have hz := hW.z
    rw [wp_bn, xgP11_3 hK, wp_bn, wp_newO hz, wp_bn, wp_pRc]
    obtain ⟨r, hr⟩ : ∃ r, r = mX μ := ⟨_, rfl⟩
    rw [← hr]
    have kr1 : mK (q_al (1 + 1) 0 5 μ) r = 2 := by rw [mK_al, if_pos hr]
    refine ⟨kr1, ?_⟩
    have n1 := (Nw.rf hW).al 2 0 5 (by omega)
    unfold F_X1_init
    rw [wp_bn, wp_bn, show (6 : Int32) = q_i3 6 from rfl, wp_newA n1.1.z (by omega), wp_bn, wp_wP]
    have n2 := n1.al 104 6 6 (by omega)
    have x1 : mX (q_al (1 + 1) 0 5 μ) = r + 1 := by rw [mX_al, hr]
    rw [x1]
    have kr2 : mK (q_al 104 6 6 (q_al (1 + 1) 0 5 μ)) r = 2 := by rw [mK_al, if_neg (by omega), kr1]
    refine ⟨kr2, ?_⟩
    have n3 := n2.sP (f := 64) (a := r) (v := some (r + 1)) (by show mK (q_al 104 6 6 (q_al (1 + 1) 0 5 μ)) r ≠ 0; rw [kr2]; omega) (by omega)
    obtain ⟨μ3, e3⟩ : ∃ μ3, μ3 = sP (q_al 104 6 6 (q_al (1 + 1) 0 5 μ)) 64 r (some (r + 1)) := ⟨_, rfl⟩
    have f3 : q_Fr [64] μ μ3 := by rw [e3]; exact (((q_Fr.nw hz 2 0 5).tr (q_Fr.nw n1.1.z 104 6 6)).tr (q_Fr.sP _ 64 r _)).wk rfl
    have n3' : Nw μ μ3 := by rw [e3]; exact n3
    show q_wp (rt ()) (sP (q_al 104 6 6 (q_al (1 + 1) 0 5 μ)) 64 r (some (r + 1))) _
    rw [← e3, wp_rt, wp_bn]
    have K3 : K0 μ3 b := hK.fr f3 rfl
    have kr3 : mK μ3 r = 2 := by rw [e3]; exact kr2
    rw [xpL_33 K3, wp_bn]
    have l3 : q_lst μ3 (b + 33) = q_lst μ (b + 33) := by rw [n3'.2.1]
    refine q_wp_mono (ls_add n3'.1 (K3.k 33 14 (by decide)) (by omega) (n3'.nin hW (by omega)) (by rw [l3, hM.1]; omega)) ?_
    rintro _ μ4 ⟨_, u⟩
    have hC3 : Cs [64] [] 2 11 b μ μ3 := n3'.cs f3 (by rw [e3]; show mX μ + 1 + 1 ≤ _; omega) (by rw [e3]; show mS μ + 5 + 6 ≤ _; omega)
    have hC4 := u.cs K3
    have hC := hC3.tr hC4
    have K4 : K0 μ4 b := hK.fr hC.2.1 rfl
    rw [l3] at u
    have l4 : q_lst μ4 (b + 33) = q_lst μ (b + 33) ++ [r] := u.2.2.1
    rw [wp_bn, xgP11_3 K4, wp_bn, xpL_33 K4, wp_bn, wp_eq (ls_size hC.1 (K4.k 33 14 (by decide))), wp_rt, l4, List.length_append, hM.1]
    refine ⟨i3_sub (a := vN (sM s) + 1) (b := 1) (by omega), ?_⟩
    refine cOK.of hK ⟨?_, hL.fr hC.2.1 (fun i hi => hC.2.2.1 _ (lgO_lo hi) (lgNo (by decide) hi)) rfl, hO.fr hC.2.1 (fun i hi s => hC.2.2.1 _ (sdO_lo hi s) (sdNo (by decide) hi s)) rfl, hT.fr hC.2.1 (hC.2.2.1 34 (by decide) (by decide)) rfl, hD.fr hC.2.1 (hC.2.2.1 37 (by decide) (by decide)) rfl, hR.fr hC.2.1 (hC.2.2.1 35 (by decide) (by decide)) rfl, hN.fr hC.2.1 (hC.2.2.1 36 (by decide) (by decide)) rfl, hU.fr hC.2.1 (hC.2.2.1 5 (by decide) (by decide)) rfl, hP.fr hC.2.1 rfl⟩ hC rfl rfl (by omega) (by rw [l3, hM.1]; omega)
    refine ⟨by rw [l4, List.length_append, hM.1]; rfl, fun i hi => ?_⟩
    have hi : i < vN (sM s) + 1 := hi
    have f4 := hC.2.1
    show MO μ4 _ ∧ mL μ4 66 _ = vPd (sM s) i ∧ mI μ4 67 _ = vCl (sM s) i ∧ mI μ4 68 _ = vFa (sM s) i ∧ mL μ4 65 _ = vCs (sM s) i ∧ ∀ j, j < 6 → aI μ4 104 _ j = vPs (sM s) i j
    rw [f4.l 66 rfl, f4.i 67 rfl, f4.i 68 rfl, f4.l 65 rfl, f4.ai 104 rfl]
    by_cases hin : i = vN (sM s)
    · have e : mr μ4 b i = r := by unfold mr; rw [l4, hin, ← hM.1, getD_app2]
      obtain ⟨z1, z2, z3, z4, z5⟩ := hI.1.2.1 i (by omega) (by omega)
      obtain ⟨b1, b2, b3, b4, b5, _⟩ := hz r (by omega)
      obtain ⟨_, _, _, c4, _⟩ := hz (r + 1) (by omega)
      rw [e, z1, z2, z3, z4]
      have u2 := u.2.1
      have q1 : mK μ3 (r + 1) = 104 := by rw [e3]; show mK (q_al 104 6 6 (q_al (1 + 1) 0 5 μ)) (r + 1) = 104; rw [mK_al, if_pos x1.symm]
      refine ⟨⟨u2.k kr3 (by omega), ?_, u2.k q1 (by omega), ?_⟩, b2 66, b1 67, b1 68, b2 65, fun j hj => by rw [c4, z5 j hj]⟩
      · rw [u2.p 64 rfl, e3, mP_sP']; simp
      · refine u2.n (by omega) ?_
        rw [e3]; show mN (q_al 104 6 6 (q_al (1 + 1) 0 5 μ)) (r + 1) = 6; rw [mN_al, if_pos x1.symm]
    · have e : mr μ4 b i = mr μ b i := by unfold mr; rw [l4, getD_app1 (by rw [hM.1]; omega)]
      obtain ⟨⟨m1, m2, m3, m4⟩, q⟩ := hM.2 i (by omega)
      rw [e]
      have hne : mr μ b i ≠ r := fun z => by have := hz.lt (a := mr μ b i) (by omega); omega
      refine ⟨⟨f4.k m1 (by omega), ?_, f4.k m3 (by omega), f4.n (by omega) m4⟩, q⟩
      rw [u.2.1.p 64 rfl, e3, mP_sP', if_neg (fun z => hne z.2)]; exact m2
  · rw [if_neg (fun z => h (hlt.mp z)), if_neg h, wp_rt]
    exact ⟨rfl, cOK.rf hK hW hA⟩
theorem r_member {μ : Mem} {b c : Nat} {s : q_St} (hK : K0 μ b) (hA : q_AR μ b s) (hI : Iv s c) : q_wp (F_X12_member (b + 38)) μ (fun r ν => r = (fMember s).1 ∧ rOK μ b (fMember s).2 0 ν) := by
  have hn := hI.1.1
  unfold F_X12_member
  refine r_start hK hA fun μ hK hA h0 => ?_
  obtain ⟨hM, hL, hO, hT, hD, hR, hN, hU, hP⟩ := id hA
  unfold fMember
  simp (maxSteps := 2000000) (disch := first | assumption | omega | (simp only [K0_sI, K0_sL, K0_tI, K0_tL, K0_nE]; assumption)) only [wp_bn, wp_rt, wp_ite, wp_rz, xgI11, xgL11, xwI11, xpR11, xgI4, xgL4, xwI4, xpR4, xgI7, xgL7, xwI7, xpR7, xgI12, xgL12, xwI12, xpR12, xgP11_0, xgP11_1, xgP11_2, xgP11_3, xgP11_4, xgP11_5, xgP11_6, xgP11_7, xgP4_0, xl115, xs115, xgP4_9, xl120, xs120, xgP7_0, xgP7_1, xl136, xs136, xgP7_2, xl144, xs144, xgP12_0, xl160, xs160, xgP12_4, xl168, xs168, xgP12_5, xl176, xs176, xgP12_6, xl184, xs184, xgP12_7, xl192, xs192, xgP12_8, xl200, xs200, xgP12_11, xl209, xs209, xgP12_12, xl218, xs218, xgP12_13, xl226, xs226, xgP12_14, xl232, xs232, xgP12_15, xl241, xs241, xgP12_16, xl248, xs248, xgP12_17, xl256, xs256, xgP12_18, xl264, xs264, xgP12_19, xl274, xs274, xgP12_20, xl280, xs280, xgP12_22, xl288, xs288, xgP12_25, xl296, xs296, xgP12_26, xl305, xs305, xgP12_27, xl312, xs312, xgP12_28, xl321, xs321, xgP12_29, xl328, xs328, xgP12_31, xl336, xs336, xgP12_33, xl344, xs344, xgP12_46, xl352, xs352, xgP12_47, xl360, xs360, xgP2_0, xpL2_0, xgP2_1, xpL2_1, xgP2_2, xpL2_2, xgI2, xwZ2, xpR2, xmo, xpL_5, xpL_33, xpL_34, xpL_35, xpL_36, xpL_37, Nat.reduceMul, Nat.reduceAdd, hM.1, mI_sI', mL_sL', mP_sP', aI_tI', aL_tL', aP_tP', mI_sL, mI_sP, mI_tI, mI_tL, mI_tP, mL_sI, mL_sP, mL_tI, mL_tL, mL_tP, mP_sI, mP_sL, mP_tI, mP_tL, mP_tP, aI_sI, aI_sL, aI_sP, aI_tL, aI_tP, aL_sI, aL_sL, aL_sP, aL_tI, aL_tP, aP_sI, aP_sL, aP_sP, aP_tI, aP_tL, mK_sI, mK_sL, mK_sP, mK_tI, mK_tL, mK_tP, mN_sI, mN_sL, mN_sP, mN_tI, mN_tL, mN_tP, mX_sI, mX_sL, mX_sP, mX_tI, mX_tL, mX_tP, mS_sI, mS_sL, mS_sP, mS_tI, mS_tL, mS_tP, mT_sI, mT_sL, mT_sP, mT_tI, mT_tL, mT_tP, i3m2, i3m4, i3m5, i3m6, i3m7, i3m12, i3m60, i3m72, i3m1600, i3r6, i3p1, i3p2, i3p3, i3p4, i3p5, i3p6, i3p7, i3p8, i3p9, i3p20, i3_add, i3_mul, i3_toNat, inA_i3, i3_lt, i3_le, i3_eq]
  by_cases h : vN (sM s) < 12
  · have hne : ¬ q_i3 (vN (sM s)) = 12 := fun z => by have := (i3_eq (b := 12) (by omega) (by omega)).mp z; omega
    rw [if_pos hne, if_pos h]
    refine ⟨?_, ?_⟩
    · simp; exact i3_sub (a := vN (sM s) + 1) (b := 1) (by omega)
    have hC := (Md.sI (f := 778) (v := q_i3 (vN (sM s) + 1)) (kr hK 38 12 (by decide)))
    refine rOK.of ⟨?_, hL.fr hC.1 rfl, hO.fr hC.1 rfl, hT.fr hC.1 rfl, hD.fr hC.1 rfl, hR.fr hC.1 rfl, hN.fr hC.1 rfl, hU.fr hC.1 rfl, hP.fr hC.1 rfl⟩ hC rfl (by rw [mI_sI']; simpa using h0)
    exact ⟨by rw [mI_sI']; simp; rfl, hM.2⟩
  · have hne : q_i3 (vN (sM s)) = 12 := by rw [show vN (sM s) = 12 by omega]; rfl
    rw [if_neg (fun z => z hne), if_neg h]
    exact ⟨rfl, rOK.rf hA h0⟩

def rRow (p g l : Int32) : Nat → Int32 := fun w => if w = 0 then g else if w = 1 then l else if w = 2 then p else 1
def fReceipt (s : q_St) (p g l : Int32) : Int32 × q_St := if q_inR p (vN (sM s)) ∧ q_inR g 4 ∧ q_inR l 4 ∧ (sR s).1 < 60 then (q_i3 (sR s).1, wR s ((sR s).1 + 1, q_upd (sR s).2 (sR s).1 (rRow p g l))) else (-1, s)
theorem out4 {g : Int32} (h : ¬ q_inR g 4) : g < 0 ∨ (¬ g < 0 ∧ (3 : Int32) < g) := by
  have h0 : (0 : Int32).toInt = 0 := rfl
  have h3 : (3 : Int32).toInt = 3 := rfl
  rw [Int32.lt_iff_toInt_lt, Int32.lt_iff_toInt_lt, h0, h3]
  unfold q_inR at h; omega
theorem in4 {g : Int32} (h : q_inR g 4) : ¬ g < 0 ∧ ¬ (3 : Int32) < g := by
  have h0 : (0 : Int32).toInt = 0 := rfl
  have h3 : (3 : Int32).toInt = 3 := rfl
  rw [Int32.lt_iff_toInt_lt, Int32.lt_iff_toInt_lt, h0, h3]
  unfold q_inR at h; omega
theorem ncw {S : List Nat} {a n w : Nat} (h : ∀ w : Fin n, S.contains (a + w.1) = false) (hw : w < n) : S.contains (a + w) = false := h ⟨w, hw⟩
theorem c_receipt {μ : Mem} {b c : Nat} {s : q_St} (hK : K0 μ b) (hW : WF μ) (hA : q_AC μ b s) (hI : Iv s c) (p g l : Int32) : q_wp (F_X11_receipt b p g l) μ (fun r ν => r = (fReceipt s p g l).1 ∧ cOK μ b (fReceipt s p g l).2 3 200 ν) := by
  obtain ⟨hM, hL, hO, hT, hD, hR, hN, hU, hP⟩ := id hA
  have hn := hI.2.2.2.2.2.1.1
  have k35 := hK.k 35 14 (by decide)
  obtain ⟨R, eR⟩ : ∃ R, R = fReceipt s p g l := ⟨_, rfl⟩
  rw [← eR]
  unfold fReceipt at eR
  unfold F_X11_receipt
  rw [wp_bn, xpR11 hK, wp_bn, wp_eq (c_memberOf hK hW hM p), wp_ite]
  have no : ¬ (q_inR p (vN (sM s)) ∧ q_inR g 4 ∧ q_inR l 4 ∧ (sR s).1 < 60) → (-1 : Int32) = R.1 ∧ cOK μ b R.2 3 200 μ := by
    intro h; rw [if_neg h] at eR; rw [eR]; exact ⟨rfl, cOK.rf hK hW hA⟩
  by_cases h : q_inR p (vN (sM s))
  · rw [if_pos h, if_neg (by simp), wp_ite]
    by_cases hg : q_inR g 4
    · obtain ⟨g1, g2⟩ := in4 hg
      rw [if_neg g1, wp_ite, if_neg g2, wp_ite]
      by_cases hl : q_inR l 4
      · obtain ⟨l1, l2⟩ := in4 hl
        rw [if_neg l1, wp_ite, if_neg l2, wp_bn, xgP11_5 hK, wp_bn, xpL_35 hK, wp_bn, wp_eq (ls_size hW k35), hR.1, wp_ite]
        have hlt : q_i3 (sR s).1 < 60 ↔ (sR s).1 < 60 := i3_lt (b := 60) (by omega) (by omega)
        by_cases h6 : (sR s).1 < 60
        · rw [if_pos (hlt.mpr h6)]
          rw [if_pos ⟨h, hg, hl, h6⟩] at eR
          have hz := hW.z
          rw [wp_bn, xgP11_5 hK, wp_bn, wp_newO hz, wp_bn, wp_pRc]
          obtain ⟨r, hr⟩ : ∃ r, r = mX μ := ⟨_, rfl⟩
          rw [← hr]
          have kr1 : mK (q_al (5 + 1) 0 4 μ) r = 6 := by rw [mK_al, if_pos hr]
          refine ⟨kr1, ?_⟩
          have n1 := (Nw.rf hW).al 6 0 4 (by omega)
          unfold F_X5_init
          simp only [wp_bn, wp_wZ, wp_wI, wp_rt, Nat.reduceMul, Nat.reduceAdd]
          refine ⟨kr1, Or.inr trivial, kr1, kr1, kr1, ?_⟩
          have n2 := (((n1.sI (f := 323) (a := r) (v := 1) (by show mK (q_al (5 + 1) 0 4 μ) r ≠ 0; omega) (by omega)).sI (f := 322) (a := r) (v := p) (by show mK (q_al (5 + 1) 0 4 μ) r ≠ 0; omega) (by omega)).sI (f := 320) (a := r) (v := g) (by show mK (q_al (5 + 1) 0 4 μ) r ≠ 0; omega) (by omega)).sI (f := 321) (a := r) (v := l) (by show mK (q_al (5 + 1) 0 4 μ) r ≠ 0; omega) (by omega)
          obtain ⟨μ3, e3⟩ : ∃ μ3, μ3 = sI (sI (sI (sI (q_al 6 0 4 μ) 323 r 1) 322 r p) 320 r g) 321 r l := ⟨_, rfl⟩
          have f3 : q_Fr [323, 322, 320, 321] μ μ3 := by rw [e3]; exact (((((q_Fr.nw hz 6 0 4).tr (q_Fr.sI _ 323 r _)).tr (q_Fr.sI _ 322 r _)).tr (q_Fr.sI _ 320 r _)).tr (q_Fr.sI _ 321 r _)).wk rfl
          rw [← e3] at n2 ⊢
          have K3 : K0 μ3 b := hK.fr f3 rfl
          have kr3 : mK μ3 r = 6 := by rw [e3]; exact kr1
          rw [xpL_35 K3]
          have l3 : q_lst μ3 (b + 35) = q_lst μ (b + 35) := by rw [n2.2.1]
          refine q_wp_mono (ls_add n2.1 (K3.k 35 14 (by decide)) (by omega) (n2.nin hW (by omega)) (by rw [l3, hR.1]; omega)) ?_
          rintro _ μ4 ⟨_, u⟩
          have hC3 : Cs [323, 322, 320, 321] [] 1 4 b μ μ3 := n2.cs f3 (by rw [e3]; exact Nat.le_refl _) (by rw [e3]; exact Nat.le_refl _)
          have hC := hC3.tr (u.cs K3)
          have K4 : K0 μ4 b := hK.fr hC.2.1 rfl
          rw [l3] at u
          have l4 : q_lst μ4 (b + 35) = q_lst μ (b + 35) ++ [r] := u.2.2.1
          rw [xgP11_5 K4, xpL_35 K4, wp_eq (ls_size hC.1 (K4.k 35 14 (by decide))), l4, List.length_append, hR.1, eR]
          refine ⟨i3_sub (a := (sR s).1 + 1) (b := 1) (by omega), ?_⟩
          refine cOK.of hK ⟨hM.fr hC.2.1 (hC.2.2.1 33 (by decide) (by decide)) rfl, hL.fr hC.2.1 (fun i hi => hC.2.2.1 _ (lgO_lo hi) (lgNo (by decide) hi)) rfl, hO.fr hC.2.1 (fun i hi s => hC.2.2.1 _ (sdO_lo hi s) (sdNo (by decide) hi s)) rfl, hT.fr hC.2.1 (hC.2.2.1 34 (by decide) (by decide)) rfl, hD.fr hC.2.1 (hC.2.2.1 37 (by decide) (by decide)) rfl, ?_, hN.fr hC.2.1 (hC.2.2.1 36 (by decide) (by decide)) rfl, hU.fr hC.2.1 (hC.2.2.1 5 (by decide) (by decide)) rfl, hP.fr hC.2.1 rfl⟩ hC rfl rfl (by omega) (by rw [l3, hR.1]; omega)
          have f4 := u.2.1
          refine TX.app (o := 35) (k := 6) (W := 4) (tag := fun w => 320 + w) hR.tx l4 (fun a ha => hC.2.1.k ha (by omega)) (f4.k kr3 (by omega)) ?_ ?_
          · intro w hw
            have e5 : mI μ4 (320 + w) = mI μ3 (320 + w) := f4.i _ (ncw (n := 4) (by decide) hw)
            show mI μ4 (320 + w) r = _
            rw [e5, e3]
            have hw4 : w = 0 ∨ w = 1 ∨ w = 2 ∨ w = 3 := by omega
            rcases hw4 with rfl | rfl | rfl | rfl <;> simp [mI_sI', rRow]
          · intro w hw a ha
            have e5 : mI μ4 (320 + w) = mI μ3 (320 + w) := f4.i _ (ncw (n := 4) (by decide) hw)
            show mI μ4 (320 + w) a = _
            have hne : a ≠ r := fun z => hW.nin k35 (by omega) (z ▸ ha)
            rw [e5, e3]
            simp [mI_sI', hne, mI_al]
        · rw [if_neg (fun z => h6 (hlt.mp z)), wp_rt]; exact no fun z => h6 z.2.2.2
      · rcases out4 hl with l1 | ⟨l1, l2⟩
        · rw [if_pos l1, wp_rt]; exact no fun z => hl z.2.2.1
        · rw [if_neg l1, wp_ite, if_pos l2, wp_rt]; exact no fun z => hl z.2.2.1
    · rcases out4 hg with g1 | ⟨g1, g2⟩
      · rw [if_pos g1, wp_rt]; exact no fun z => hg z.2.1
      · rw [if_neg g1, wp_ite, if_pos g2, wp_rt]; exact no fun z => hg z.2.1
  · rw [if_neg h, if_pos rfl, wp_rt]; exact no fun z => h z.1
theorem r_receipt {μ : Mem} {b c : Nat} {s : q_St} (hK : K0 μ b) (hA : q_AR μ b s) (hI : Iv s c) (p g l : Int32) : q_wp (F_X12_receipt (b + 38) p g l) μ (fun r ν => r = (fReceipt s p g l).1 ∧ rOK μ b (fReceipt s p g l).2 0 ν) := by
  have hn := hI.1.1
  have hn6 := hI.2.2.2.2.2.1.1
  unfold F_X12_receipt
  refine r_start hK hA fun μ hK hA h0 => ?_
  obtain ⟨hM, hL, hO, hT, hD, hR, hN, hU, hP⟩ := id hA
  obtain ⟨R, eR⟩ : ∃ R, R = fReceipt s p g l := ⟨_, rfl⟩
  rw [← eR]
  unfold fReceipt at eR
  have no : ¬ (q_inR p (vN (sM s)) ∧ q_inR g 4 ∧ q_inR l 4 ∧ (sR s).1 < 60) → (-1 : Int32) = R.1 ∧ rOK μ b R.2 0 μ := by
    intro h; rw [if_neg h] at eR; rw [eR]; exact ⟨rfl, rOK.rf hA h0⟩
  rw [wp_bn, xpR12 hK, wp_bn, wp_eq (r_isMember hK hM hn p), wp_ite]
  by_cases h : q_inR p (vN (sM s))
  · rw [if_pos h, if_neg (by decide), wp_bn, wp_eq (in_lit (n := 4) rfl), wp_ite]
    by_cases hg : q_inR g 4
    · rw [if_pos hg, if_neg (by decide), wp_bn, wp_eq (in_lit (n := 4) rfl), wp_ite]
      by_cases hl : q_inR l 4
      · rw [if_pos hl, if_neg (by decide), wp_bn, xgI12 hK, hR.1, wp_ite]
        have heq : q_i3 (sR s).1 = 60 ↔ (sR s).1 = 60 := i3_eq (b := 60) (by omega) (by omega)
        by_cases h6 : (sR s).1 < 60
        · rw [if_pos (fun z => by have := heq.mp z; omega)]
          rw [if_pos ⟨h, hg, hl, h6⟩] at eR
          have e0 : mI μ 800 (b + 38) = q_i3 (sR s).1 := hR.1
          simp (maxSteps := 2000000) (disch := first | assumption | omega | (simp only [K0_sI, K0_sL, K0_tI, K0_tL, K0_nE]; assumption)) only [wp_bn, wp_rt, wp_ite, wp_rz, xgI11, xgL11, xwI11, xpR11, xgI4, xgL4, xwI4, xpR4, xgI7, xgL7, xwI7, xpR7, xgI12, xgL12, xwI12, xpR12, xgP11_0, xgP11_1, xgP11_2, xgP11_3, xgP11_4, xgP11_5, xgP11_6, xgP11_7, xgP4_0, xl115, xs115, xgP4_9, xl120, xs120, xgP7_0, xgP7_1, xl136, xs136, xgP7_2, xl144, xs144, xgP12_0, xl160, xs160, xgP12_4, xl168, xs168, xgP12_5, xl176, xs176, xgP12_6, xl184, xs184, xgP12_7, xl192, xs192, xgP12_8, xl200, xs200, xgP12_11, xl209, xs209, xgP12_12, xl218, xs218, xgP12_13, xl226, xs226, xgP12_14, xl232, xs232, xgP12_15, xl241, xs241, xgP12_16, xl248, xs248, xgP12_17, xl256, xs256, xgP12_18, xl264, xs264, xgP12_19, xl274, xs274, xgP12_20, xl280, xs280, xgP12_22, xl288, xs288, xgP12_25, xl296, xs296, xgP12_26, xl305, xs305, xgP12_27, xl312, xs312, xgP12_28, xl321, xs321, xgP12_29, xl328, xs328, xgP12_31, xl336, xs336, xgP12_33, xl344, xs344, xgP12_46, xl352, xs352, xgP12_47, xl360, xs360, xgP2_0, xpL2_0, xgP2_1, xpL2_1, xgP2_2, xpL2_2, xgI2, xwZ2, xpR2, xmo, xpL_5, xpL_33, xpL_34, xpL_35, xpL_36, xpL_37, Nat.reduceMul, Nat.reduceAdd, mI_sI', mL_sL', mP_sP', aI_tI', aL_tL', aP_tP', mI_sL, mI_sP, mI_tI, mI_tL, mI_tP, mL_sI, mL_sP, mL_tI, mL_tL, mL_tP, mP_sI, mP_sL, mP_tI, mP_tL, mP_tP, aI_sI, aI_sL, aI_sP, aI_tL, aI_tP, aL_sI, aL_sL, aL_sP, aL_tI, aL_tP, aP_sI, aP_sL, aP_sP, aP_tI, aP_tL, mK_sI, mK_sL, mK_sP, mK_tI, mK_tL, mK_tP, mN_sI, mN_sL, mN_sP, mN_tI, mN_tL, mN_tP, mX_sI, mX_sL, mX_sP, mX_tI, mX_tL, mX_tP, mS_sI, mS_sL, mS_sP, mS_tI, mS_tL, mS_tP, mT_sI, mT_sL, mT_sP, mT_tI, mT_tL, mT_tP, e0, i3m2, i3m4, i3m5, i3m6, i3m7, i3m12, i3m60, i3m72, i3m1600, i3r6, i3p1, i3p2, i3p3, i3p4, i3p5, i3p6, i3p7, i3p8, i3p9, i3p20, i3_add, i3_mul, i3_toNat, inA_i3, i3_lt, i3_le, i3_eq]
          refine ⟨by omega, by omega, by omega, by omega, ?_, ?_⟩
          · rw [eR]; simp; exact i3_sub (a := (sR s).1 + 1) (b := 1) (by omega)
          have k61 := kr hK 61 335 (by decide)
          have hC := ((((Md.tI (k := 336) (i := 4 * (sR s).1) (v := g) k61).tr (Md.tI (k := 336) (a := b + 61) (i := 4 * (sR s).1 + 1) (v := l) k61)).tr (Md.tI (k := 336) (a := b + 61) (i := 4 * (sR s).1 + 2) (v := p) k61)).tr (Md.tI (k := 336) (a := b + 61) (i := 4 * (sR s).1 + 3) (v := 1) k61)).tr (Md.sI (f := 800) (a := b + 38) (v := q_i3 ((sR s).1 + 1)) (kr hK 38 12 (by decide)))
          rw [eR]
          refine rOK.of ⟨hM.fr hC.1 rfl, hL.fr hC.1 rfl, hO.fr hC.1 rfl, hT.fr hC.1 rfl, hD.fr hC.1 rfl, ?_, hN.fr hC.1 rfl, hU.fr hC.1 rfl, hP.fr hC.1 rfl⟩ hC rfl (by rw [hC.1.i 803 rfl]; exact h0)
          refine ⟨by rw [mI_sI']; simp; rfl, fun t ht w hw => ?_⟩
          have ht : t < (sR s).1 + 1 := ht
          show _ = q_upd (sR s).2 (sR s).1 (rRow p g l) t w
          unfold q_upd
          simp only [mI_sI', mL_sL', mP_sP', aI_tI', aL_tL', aP_tP', mI_sL, mI_sP, mI_tI, mI_tL, mI_tP, mL_sI, mL_sP, mL_tI, mL_tL, mL_tP, mP_sI, mP_sL, mP_tI, mP_tL, mP_tP, aI_sI, aI_sL, aI_sP, aI_tL, aI_tP, aL_sI, aL_sL, aL_sP, aL_tI, aL_tP, aP_sI, aP_sL, aP_sP, aP_tI, aP_tL, mK_sI, mK_sL, mK_sP, mK_tI, mK_tL, mK_tP, mN_sI, mN_sL, mN_sP, mN_tI, mN_tL, mN_tP, mX_sI, mX_sL, mX_sP, mX_tI, mX_tL, mX_tP, mS_sI, mS_sL, mS_sP, mS_tI, mS_tL, mS_tP, mT_sI, mT_sL, mT_sP, mT_tI, mT_tL, mT_tP]
          by_cases htn : t = (sR s).1
          · rw [if_pos htn, htn]
            have hw4 : w = 0 ∨ w = 1 ∨ w = 2 ∨ w = 3 := by omega
            rcases hw4 with rfl | rfl | rfl | rfl <;> simp [rRow]
          · rw [if_neg htn, if_neg (by omega), if_neg (by omega), if_neg (by omega), if_neg (by omega)]
            exact hR.2 t (by omega) w hw
        · rw [if_neg (fun z => z (heq.mpr (by omega))), wp_rt]; exact no fun z => h6 z.2.2.2
      · rw [if_neg hl, if_pos rfl, wp_rt]; exact no fun z => hl z.2.2.1
    · rw [if_neg hg, if_pos rfl, wp_rt]; exact no fun z => hg z.2.1
  · rw [if_neg h, if_pos rfl, wp_rt]; exact no fun z => h z.1

theorem bef_iff {s : Int32} {x y : Od} : bef s x y = true ↔ (oP x = oP y ∧ q_oN x < q_oN y) ∨ (oP x ≠ oP y ∧ ((s = 0 ∧ (oP x).toInt < (oP y).toInt) ∨ (s ≠ 0 ∧ (oP y).toInt < (oP x).toInt))) := by
  unfold bef
  by_cases h : oP x = oP y
  · simp [h]
  · by_cases h2 : s = 0
    · simp [h, h2, Int32.lt_iff_toInt_lt]
    · simp [h, h2, Int32.lt_iff_toInt_lt]
theorem bef_irr {s : Int32} {x : Od} : ¬ bef s x x = true := by
  rw [bef_iff]; omega
theorem bef_asym {s : Int32} {x y : Od} (h : bef s x y = true) : ¬ bef s y x = true := by
  rw [bef_iff] at h ⊢
  rcases h with ⟨h1, h2⟩ | ⟨h1, h2⟩
  · rw [h1]; intro z; rcases z with z | z
    · omega
    · exact z.1 rfl
  · intro z
    rcases z with z | z
    · exact h1 z.1.symm
    · rcases h2 with ⟨a, c⟩ | ⟨a, c⟩ <;> rcases z.2 with ⟨d, e⟩ | ⟨d, e⟩ <;> first | omega | exact absurd a d | exact absurd d a
theorem bef_total {s : Int32} {x y : Od} (h : q_oN x ≠ q_oN y) (h1 : ¬ bef s x y = true) : bef s y x = true := by
  rw [bef_iff] at h1 ⊢
  by_cases hp : oP x = oP y
  · left; exact ⟨hp.symm, by have : ¬ q_oN x < q_oN y := fun z => h1 (Or.inl ⟨hp, z⟩); omega⟩
  · right
    refine ⟨fun z => hp z.symm, ?_⟩
    have hne : (oP x).toInt ≠ (oP y).toInt := fun z => hp (Int32.toInt_inj.mp z)
    by_cases hs : s = 0
    · left; refine ⟨hs, ?_⟩
      have : ¬ (oP x).toInt < (oP y).toInt := fun z => h1 (Or.inr ⟨hp, Or.inl ⟨hs, z⟩⟩)
      omega
    · right; refine ⟨hs, ?_⟩
      have : ¬ (oP y).toInt < (oP x).toInt := fun z => h1 (Or.inr ⟨hp, Or.inr ⟨hs, z⟩⟩)
      omega
theorem bef_trans {s : Int32} {x y z : Od} (h1 : bef s x y = true) (h2 : bef s y z = true) : bef s x z = true := by
  rw [bef_iff] at h1 h2 ⊢
  have exy : oP x = oP y ↔ (oP x).toInt = (oP y).toInt := Int32.toInt_inj.symm
  have eyz : oP y = oP z ↔ (oP y).toInt = (oP z).toInt := Int32.toInt_inj.symm
  have exz : oP x = oP z ↔ (oP x).toInt = (oP z).toInt := Int32.toInt_inj.symm
  rw [ne_eq, exy] at h1; rw [ne_eq, eyz] at h2; rw [ne_eq, exz]
  by_cases hs : s = 0
  · simp only [hs, true_and, ne_eq, not_true_eq_false, false_and, or_false] at *; omega
  · simp only [hs, false_and, ne_eq, not_false_eq_true, true_and, false_or] at *; omega
theorem bef_nt {s : Int32} {x y z : Od} (h1 : ¬ bef s y x = true) (h2 : ¬ bef s z y = true) : ¬ bef s z x = true := by
  rw [bef_iff] at h1 h2 ⊢
  have exy : oP y = oP x ↔ (oP y).toInt = (oP x).toInt := Int32.toInt_inj.symm
  have eyz : oP z = oP y ↔ (oP z).toInt = (oP y).toInt := Int32.toInt_inj.symm
  have exz : oP z = oP x ↔ (oP z).toInt = (oP x).toInt := Int32.toInt_inj.symm
  rw [ne_eq, exy] at h1; rw [ne_eq, eyz] at h2; rw [ne_eq, exz]
  by_cases hs : s = 0
  · simp only [hs, true_and, ne_eq, not_true_eq_false, false_and, or_false] at *; omega
  · simp only [hs, false_and, ne_eq, not_false_eq_true, true_and, false_or] at *; omega
def q_side (os : List Od) (t s : Int32) : List Od := (os.filter fun x => oT x == t && oB x == s).mergeSort (fun x y => ! bef s y x)
theorem side_pw (os : List Od) (t s : Int32) : (q_side os t s).Pairwise (fun x y => (! bef s y x) = true) := by
  unfold q_side
  apply List.pairwise_mergeSort
  · intro x y z h1 h2
    simp only [Bool.not_eq_true', Bool.eq_false_iff] at h1 h2 ⊢
    exact bef_nt h1 h2
  · intro x y
    by_cases h : bef s y x = true
    · have := bef_asym h
      simp [h, this]
    · simp [h]
theorem side_mem {os : List Od} {t s : Int32} {x : Od} : x ∈ q_side os t s ↔ x ∈ os ∧ oT x = t ∧ oB x = s := by
  unfold q_side
  rw [(List.mergeSort_perm _ _).mem_iff, List.mem_filter]
  simp
def Inc (os : List Od) : Prop := os.Pairwise (fun x y => q_oN x < q_oN y)
theorem Inc.inj {os : List Od} (h : Inc os) {x y : Od} (hx : x ∈ os) (hy : y ∈ os) (he : q_oN x = q_oN y) : x = y := by
  unfold Inc at h
  obtain ⟨i, hi, rfl⟩ := List.mem_iff_getElem.mp hx
  obtain ⟨j, hj, rfl⟩ := List.mem_iff_getElem.mp hy
  have hp := List.pairwise_iff_getElem.mp h
  rcases Nat.lt_trichotomy i j with q | q | q
  · have := hp i j hi hj q; omega
  · subst q; rfl
  · have := hp j i hj hi q; omega
theorem Inc.nodup {os : List Od} (h : Inc os) : os.Nodup := List.Pairwise.imp (fun {a b} (q : q_oN a < q_oN b) z => by rw [z] at q; omega) h
theorem side_eq {os l : List Od} {t s : Int32} (h : Inc os) (hp : l.Pairwise (fun x y => bef s x y = true)) (hm : ∀ x, x ∈ l ↔ x ∈ os ∧ oT x = t ∧ oB x = s) : l = q_side os t s := by
  have hn : l.Nodup := List.Pairwise.imp (fun {a b} q z => by rw [z] at q; exact bef_irr q) hp
  have hn2 : (q_side os t s).Nodup := by
    unfold q_side
    rw [(List.mergeSort_perm _ _).nodup_iff]
    exact List.Pairwise.filter _ h.nodup
  refine List.Perm.eq_of_pairwise (le := fun x y => (! bef s y x) = true) ?_ ?_ (side_pw os t s) ((List.perm_ext_iff_of_nodup hn hn2).mpr fun x => by rw [hm, side_mem])
  · intro x y hx hy h1 h2
    have hx := (hm x).mp hx
    have hy := side_mem.mp hy
    simp only [Bool.not_eq_true', Bool.eq_false_iff] at h1 h2
    apply h.inj hx.1 hy.1
    apply Classical.byContradiction
    intro hne
    exact h2 (bef_total (fun z => hne z.symm) h1)
  · exact List.Pairwise.imp (fun {a b} q => by simp [bef_asym q]) hp
theorem side_len (os : List Od) (t s : Int32) : (q_side os t s).length = (os.filter fun x => oT x == t && oB x == s).length := by
  unfold q_side; exact List.length_mergeSort _
theorem side_str {os : List Od} {t s : Int32} (h : Inc os) : (q_side os t s).Pairwise (fun x y => bef s x y = true) := by
  have hn2 : (q_side os t s).Nodup := by
    unfold q_side
    rw [(List.mergeSort_perm _ _).nodup_iff]
    exact List.Pairwise.filter _ h.nodup
  have := side_pw os t s
  rw [List.pairwise_iff_getElem] at this ⊢
  intro i j hi hj hij
  have h1 := this i j hi hj hij
  simp only [Bool.not_eq_true', Bool.eq_false_iff] at h1
  refine bef_total (fun z => ?_) h1
  have := h.inj (side_mem.mp (List.getElem_mem hj)).1 (side_mem.mp (List.getElem_mem hi)).1 z
  exact (List.pairwise_iff_getElem.mp hn2 i j hi hj hij) this.symm
theorem q_CO.side {μ : Mem} {b i : Nat} {v : q_VO} {s : Int32} (h : q_CO μ b v) (hi : i < 6) (hs : s = 0 ∨ s = 1) : sd μ b i s = q_side v.1 (q_i3 i) s := by
  obtain ⟨_, h2⟩ := (h.2.2.2.2 i hi s hs)
  exact side_eq h.2.2.1 h2.1 h2.2
theorem filt_count (os : List Od) (h : ∀ x, x ∈ os → (oB x = 0 ∨ oB x = 1) ∧ q_inR (oT x) 6) : ((List.range 6).map fun i => (os.filter fun x => oT x == q_i3 i && oB x == 1).length + (os.filter fun x => oT x == q_i3 i && oB x == 0).length).sum = os.length := by
  induction os with
  | nil => rfl
  | cons x os ih =>
    have ih := ih fun y hy => h y (List.mem_cons_of_mem x hy)
    obtain ⟨h1, h2⟩ := h x List.mem_cons_self
    obtain ⟨j, hj, e⟩ := inR_i3 h2
    simp only [List.filter_cons, List.length_cons]
    rw [e]
    have hc : ∀ a c : Nat, a < 6 → c < 6 → ((q_i3 a == q_i3 c) = true ↔ a = c) := fun a c ha hc => by rw [beq_iff_eq, i3_eq (by omega) (by omega)]
    have lr : List.range 6 = [0, 1, 2, 3, 4, 5] := rfl
    rw [lr] at ih ⊢
    simp only [List.map_cons, List.map_nil, List.sum_cons, List.sum_nil] at ih ⊢
    have key : ∀ k, k < 6 → (if (q_i3 j == q_i3 k && oB x == 1) = true then x :: os.filter (fun x => oT x == q_i3 k && oB x == 1) else os.filter (fun x => oT x == q_i3 k && oB x == 1)).length + (if (q_i3 j == q_i3 k && oB x == 0) = true then x :: os.filter (fun x => oT x == q_i3 k && oB x == 0) else os.filter (fun x => oT x == q_i3 k && oB x == 0)).length = ((os.filter (fun x => oT x == q_i3 k && oB x == 1)).length + (os.filter (fun x => oT x == q_i3 k && oB x == 0)).length) + (if j = k then 1 else 0) := by
      intro k hk
      by_cases q : j = k
      · subst q
        rcases h1 with e1 | e1
        · rw [e1]; simp; omega
        · rw [e1]; simp; omega
      · have : (q_i3 j == q_i3 k) = false := by
          rw [Bool.eq_false_iff]; exact fun z => q ((hc j k hj hk).mp z)
        simp [this, q]
    rw [key 0 (by omega), key 1 (by omega), key 2 (by omega), key 3 (by omega), key 4 (by omega), key 5 (by omega)]
    have : (if j = 0 then 1 else 0) + (if j = 1 then 1 else 0) + (if j = 2 then 1 else 0) + (if j = 3 then 1 else 0) + (if j = 4 then 1 else 0) + (if j = 5 then 1 else 0) = 1 := by
      rcases (show j = 0 ∨ j = 1 ∨ j = 2 ∨ j = 3 ∨ j = 4 ∨ j = 5 by omega) with rfl | rfl | rfl | rfl | rfl | rfl <;> rfl
    omega
