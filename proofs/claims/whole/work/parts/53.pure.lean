theorem co_len {μ : Mem} {b i : Nat} {v : q_VO} {s : Int32} (h : q_CO μ b v) (hi : i < 6) (hs : s = 0 ∨ s = 1) : (q_lst μ (b + sdO i s)).length = (q_side v.1 (q_i3 i) s).length := by
  rw [← h.side hi hs]; unfold sd; rw [List.length_map]
theorem sdO1 (i : Nat) : sdO i 1 = 10 + 4 * i := by unfold sdO; rw [if_neg (by decide)]
theorem sdO0 (i : Nat) : sdO i 0 = 11 + 4 * i := by unfold sdO; rw [if_pos rfl]
theorem c_allWaiting {μ : Mem} {b : Nat} {v : q_VO} (hK : K0 μ b) (hW : WF μ) (hO : q_CO μ b v) : F_X11_allWaiting b μ = some (q_i3 v.1.length, μ) := by
  apply eq_wp
  unfold F_X11_allWaiting
  obtain ⟨c, ec⟩ : ∃ c : Nat → Nat, c = fun i => (v.1.filter fun x => oT x == q_i3 i && oB x == 1).length + (v.1.filter fun x => oT x == q_i3 i && oB x == 0).length := ⟨_, rfl⟩
  have hsum : ((List.range 6).map c).sum = v.1.length := by rw [ec]; exact filt_count v.1 fun x hx => (hO.2.2.2.1 x hx).2
  have hc : ∀ i, i < 6 → q_i3 (q_lst μ (b + (10 + 4 * i))).length + q_i3 (q_lst μ (b + (11 + 4 * i))).length = q_i3 (c i) := by
    intro i hi
    have h1 := co_len hO hi (s := 1) (Or.inr rfl)
    have h0 := co_len hO hi (s := 0) (Or.inl rfl)
    rw [side_len, sdO1] at h1; rw [side_len, sdO0] at h0
    rw [h1, h0, i3_add, ec]
  refine wp_loop (σ := Int32) (fun f k x => F_X11_allWaiting_L4 f b x (q_i3 k)) 6 (fun k x ν => ν = μ ∧ x = q_i3 ((List.range k).map c).sum) _ ?_ ?_ FU 0 0 μ (by omega) (by show 6 - 0 < 100000; omega) ⟨rfl, rfl⟩
  · rintro f x ν ⟨rfl, rfl⟩
    unfold F_X11_allWaiting_L4
    rw [wp_ite, if_pos (by decide), wp_rt]
    exact ⟨by rw [hsum], rfl⟩
  · rintro f k x ν hk ⟨rfl, rfl⟩ ih
    show q_wp (F_X11_allWaiting_L4 (f + 1) b _ (q_i3 k)) ν _
    unfold F_X11_allWaiting_L4
    have hle : ¬ (6 : Int32) ≤ q_i3 k := fun z => by have := (i3_le (a := 6) (b := k) (by omega) (by omega)).mp z; omega
    obtain ⟨_, _, _, _, q1, q2, _⟩ := hK.mo hk
    simp (maxSteps := 2000000) (disch := first | assumption | omega | (simp only [K0_sI, K0_sL, K0_tI, K0_tL, K0_nE]; assumption)) only [wp_ite, hle, if_false, wp_bn, xgI11, xgL11, xwI11, xpR11, xgI4, xgL4, xwI4, xpR4, xgI7, xgL7, xwI7, xpR7, xgI12, xgL12, xwI12, xpR12, xgP11_0, xgP11_1, xgP11_2, xgP11_3, xgP11_4, xgP11_5, xgP11_6, xgP11_7, xgP4_0, xl115, xs115, xgP4_9, xl120, xs120, xgP7_0, xgP7_1, xl136, xs136, xgP7_2, xl144, xs144, xgP12_0, xl160, xs160, xgP12_4, xl168, xs168, xgP12_5, xl176, xs176, xgP12_6, xl184, xs184, xgP12_7, xl192, xs192, xgP12_8, xl200, xs200, xgP12_11, xl209, xs209, xgP12_12, xl218, xs218, xgP12_13, xl226, xs226, xgP12_14, xl232, xs232, xgP12_15, xl241, xs241, xgP12_16, xl248, xs248, xgP12_17, xl256, xs256, xgP12_18, xl264, xs264, xgP12_19, xl274, xs274, xgP12_20, xl280, xs280, xgP12_22, xl288, xs288, xgP12_25, xl296, xs296, xgP12_26, xl305, xs305, xgP12_27, xl312, xs312, xgP12_28, xl321, xs321, xgP12_29, xl328, xs328, xgP12_31, xl336, xs336, xgP12_33, xl344, xs344, xgP12_46, xl352, xs352, xgP12_47, xl360, xs360, xgP2_0, xpL2_0, xgP2_1, xpL2_1, xgP2_2, xpL2_2, xgI2, xwZ2, xpR2, xmo, xpL_5, xpL_33, xpL_34, xpL_35, xpL_36, xpL_37, wp_eq (ls_size hW q1), wp_eq (ls_size hW q2), hc k hk, i3_add, i3_1]
    refine ih _ ν ⟨rfl, ?_⟩
    rw [List.range_succ, List.map_append, List.sum_append]; simp
def q_cnt (p : Nat → Bool) (n : Nat) : Nat := ((List.range n).filter p).length
theorem cnt_succ (p : Nat → Bool) (n : Nat) : q_cnt p (n + 1) = q_cnt p n + if p n then 1 else 0 := by
  unfold q_cnt; rw [List.range_succ, List.filter_append, List.length_append]
  by_cases h : p n <;> simp [h]
theorem q_cnt_le (p : Nat → Bool) (n : Nat) : q_cnt p n ≤ n := by
  unfold q_cnt; exact Nat.le_trans (List.length_filter_le _ _) (by simp)
theorem c_allHeld {μ : Mem} {b : Nat} {v : q_VT} (hK : K0 μ b) (hW : WF μ) (hN : q_CN μ b v) (hn : v.1 ≤ 80) : F_X11_allHeld b μ = some (q_i3 (q_cnt (fun t => v.2 t 0 == 1) v.1), μ) := by
  apply eq_wp
  unfold F_X11_allHeld
  have k36 := hK.k 36 14 (by decide)
  refine wp_loop (σ := Int32) (fun f k x => F_X11_allHeld_L4 f b x (q_i3 k)) v.1 (fun k x ν => ν = μ ∧ x = q_i3 (q_cnt (fun t => v.2 t 0 == 1) k)) _ ?_ ?_ FU 0 0 μ (by omega) (by show _ < 100000; omega) ⟨rfl, rfl⟩
  · rintro f x ν ⟨rfl, rfl⟩
    unfold F_X11_allHeld_L4
    simp (maxSteps := 2000000) (disch := first | assumption | omega | (simp only [K0_sI, K0_sL, K0_tI, K0_tL, K0_nE]; assumption)) only [wp_bn, xgI11, xgL11, xwI11, xpR11, xgI4, xgL4, xwI4, xpR4, xgI7, xgL7, xwI7, xpR7, xgI12, xgL12, xwI12, xpR12, xgP11_0, xgP11_1, xgP11_2, xgP11_3, xgP11_4, xgP11_5, xgP11_6, xgP11_7, xgP4_0, xl115, xs115, xgP4_9, xl120, xs120, xgP7_0, xgP7_1, xl136, xs136, xgP7_2, xl144, xs144, xgP12_0, xl160, xs160, xgP12_4, xl168, xs168, xgP12_5, xl176, xs176, xgP12_6, xl184, xs184, xgP12_7, xl192, xs192, xgP12_8, xl200, xs200, xgP12_11, xl209, xs209, xgP12_12, xl218, xs218, xgP12_13, xl226, xs226, xgP12_14, xl232, xs232, xgP12_15, xl241, xs241, xgP12_16, xl248, xs248, xgP12_17, xl256, xs256, xgP12_18, xl264, xs264, xgP12_19, xl274, xs274, xgP12_20, xl280, xs280, xgP12_22, xl288, xs288, xgP12_25, xl296, xs296, xgP12_26, xl305, xs305, xgP12_27, xl312, xs312, xgP12_28, xl321, xs321, xgP12_29, xl328, xs328, xgP12_31, xl336, xs336, xgP12_33, xl344, xs344, xgP12_46, xl352, xs352, xgP12_47, xl360, xs360, xgP2_0, xpL2_0, xgP2_1, xpL2_1, xgP2_2, xpL2_2, xgI2, xwZ2, xpR2, xmo, xpL_5, xpL_33, xpL_34, xpL_35, xpL_36, xpL_37, wp_eq (ls_size hW k36), hN.1, wp_ite, i3m2, i3m4, i3m5, i3m6, i3m7, i3m12, i3m60, i3m72, i3m1600, i3r6, i3p1, i3p2, i3p3, i3p4, i3p5, i3p6, i3p7, i3p8, i3p9, i3p20, i3_add, i3_mul, i3_toNat, inA_i3, i3_lt, i3_le, i3_eq, Nat.le_refl, if_true, wp_rt]
    exact ⟨trivial, trivial⟩
  · rintro f k x ν hk ⟨rfl, rfl⟩ ih
    show q_wp (F_X11_allHeld_L4 (f + 1) b _ (q_i3 k)) ν _
    unfold F_X11_allHeld_L4 F_X11_allHeld_L39
    obtain ⟨g1, g2⟩ := hN.2 k hk
    have g3 : mI ν (64 * 3 + 5) ((q_lst ν (b + 36)).getD k 0) = v.2 k 0 := g2 0 (by omega)
    have hle : ¬ v.1 ≤ k := by omega
    simp (maxSteps := 2000000) (disch := first | assumption | omega | (simp only [K0_sI, K0_sL, K0_tI, K0_tL, K0_nE]; assumption)) only [wp_bn, xgI11, xgL11, xwI11, xpR11, xgI4, xgL4, xwI4, xpR4, xgI7, xgL7, xwI7, xpR7, xgI12, xgL12, xwI12, xpR12, xgP11_0, xgP11_1, xgP11_2, xgP11_3, xgP11_4, xgP11_5, xgP11_6, xgP11_7, xgP4_0, xl115, xs115, xgP4_9, xl120, xs120, xgP7_0, xgP7_1, xl136, xs136, xgP7_2, xl144, xs144, xgP12_0, xl160, xs160, xgP12_4, xl168, xs168, xgP12_5, xl176, xs176, xgP12_6, xl184, xs184, xgP12_7, xl192, xs192, xgP12_8, xl200, xs200, xgP12_11, xl209, xs209, xgP12_12, xl218, xs218, xgP12_13, xl226, xs226, xgP12_14, xl232, xs232, xgP12_15, xl241, xs241, xgP12_16, xl248, xs248, xgP12_17, xl256, xs256, xgP12_18, xl264, xs264, xgP12_19, xl274, xs274, xgP12_20, xl280, xs280, xgP12_22, xl288, xs288, xgP12_25, xl296, xs296, xgP12_26, xl305, xs305, xgP12_27, xl312, xs312, xgP12_28, xl321, xs321, xgP12_29, xl328, xs328, xgP12_31, xl336, xs336, xgP12_33, xl344, xs344, xgP12_46, xl352, xs352, xgP12_47, xl360, xs360, xgP2_0, xpL2_0, xgP2_1, xpL2_1, xgP2_2, xpL2_2, xgI2, xwZ2, xpR2, xmo, xpL_5, xpL_33, xpL_34, xpL_35, xpL_36, xpL_37, wp_eq (ls_size hW k36), hN.1, wp_ite, i3m2, i3m4, i3m5, i3m6, i3m7, i3m12, i3m60, i3m72, i3m1600, i3r6, i3p1, i3p2, i3p3, i3p4, i3p5, i3p6, i3p7, i3p8, i3p9, i3p20, i3_add, i3_mul, i3_toNat, inA_i3, i3_lt, i3_le, i3_eq, hle, if_false, wp_eq (ls_get hW k36 (show k < (q_lst ν (b + 36)).length by rw [hN.1]; exact hk)), wp_cst, wp_gI, g1, g3, true_and]
    by_cases e : v.2 k 0 = 1
    · rw [if_neg (fun z => z e)]
      refine ih _ ν ⟨rfl, ?_⟩
      rw [cnt_succ]; simp [e, i3_1]
    · rw [if_pos e]
      refine ih _ ν ⟨rfl, ?_⟩
      rw [cnt_succ]; simp [e]
theorem r_allHeld {μ : Mem} {b : Nat} {v : q_VT} (hK : K0 μ b) (hN : q_RN μ b v) (hn : v.1 ≤ 80) : F_X12_count_L97 FU (b + 38) 0 0 μ = some (q_i3 (q_cnt (fun t => v.2 t 0 == 1) v.1), μ) := by
  apply eq_wp
  refine wp_loop (σ := Int32) (fun f k x => F_X12_count_L97 f (b + 38) x (q_i3 k)) v.1 (fun k x ν => ν = μ ∧ x = q_i3 (q_cnt (fun t => v.2 t 0 == 1) k)) _ ?_ ?_ FU 0 0 μ (by omega) (by show _ < 100000; omega) ⟨rfl, rfl⟩
  · rintro f x ν ⟨rfl, rfl⟩
    unfold F_X12_count_L97
    simp (maxSteps := 2000000) (disch := first | assumption | omega | (simp only [K0_sI, K0_sL, K0_tI, K0_tL, K0_nE]; assumption)) only [wp_bn, xgI11, xgL11, xwI11, xpR11, xgI4, xgL4, xwI4, xpR4, xgI7, xgL7, xwI7, xpR7, xgI12, xgL12, xwI12, xpR12, xgP11_0, xgP11_1, xgP11_2, xgP11_3, xgP11_4, xgP11_5, xgP11_6, xgP11_7, xgP4_0, xl115, xs115, xgP4_9, xl120, xs120, xgP7_0, xgP7_1, xl136, xs136, xgP7_2, xl144, xs144, xgP12_0, xl160, xs160, xgP12_4, xl168, xs168, xgP12_5, xl176, xs176, xgP12_6, xl184, xs184, xgP12_7, xl192, xs192, xgP12_8, xl200, xs200, xgP12_11, xl209, xs209, xgP12_12, xl218, xs218, xgP12_13, xl226, xs226, xgP12_14, xl232, xs232, xgP12_15, xl241, xs241, xgP12_16, xl248, xs248, xgP12_17, xl256, xs256, xgP12_18, xl264, xs264, xgP12_19, xl274, xs274, xgP12_20, xl280, xs280, xgP12_22, xl288, xs288, xgP12_25, xl296, xs296, xgP12_26, xl305, xs305, xgP12_27, xl312, xs312, xgP12_28, xl321, xs321, xgP12_29, xl328, xs328, xgP12_31, xl336, xs336, xgP12_33, xl344, xs344, xgP12_46, xl352, xs352, xgP12_47, xl360, xs360, xgP2_0, xpL2_0, xgP2_1, xpL2_1, xgP2_2, xpL2_2, xgI2, xwZ2, xpR2, xmo, xpL_5, xpL_33, xpL_34, xpL_35, xpL_36, xpL_37, Nat.reduceMul, Nat.reduceAdd, hN.1, wp_ite, i3m2, i3m4, i3m5, i3m6, i3m7, i3m12, i3m60, i3m72, i3m1600, i3r6, i3p1, i3p2, i3p3, i3p4, i3p5, i3p6, i3p7, i3p8, i3p9, i3p20, i3_add, i3_mul, i3_toNat, inA_i3, i3_lt, i3_le, i3_eq, Nat.le_refl, if_true, wp_rt]
    exact ⟨trivial, trivial⟩
  · rintro f k x ν hk ⟨rfl, rfl⟩ ih
    show q_wp (F_X12_count_L97 (f + 1) (b + 38) _ (q_i3 k)) ν _
    unfold F_X12_count_L97 F_X12_count_L121
    have g3 : aI ν 344 (b + 62) (7 * k) = v.2 k 0 := hN.2 k hk 0 (by omega)
    have hle : ¬ v.1 ≤ k := by omega
    have hlt : 7 * k < 560 := by omega
    simp (maxSteps := 2000000) (disch := first | assumption | omega | (simp only [K0_sI, K0_sL, K0_tI, K0_tL, K0_nE]; assumption)) only [wp_bn, xgI11, xgL11, xwI11, xpR11, xgI4, xgL4, xwI4, xpR4, xgI7, xgL7, xwI7, xpR7, xgI12, xgL12, xwI12, xpR12, xgP11_0, xgP11_1, xgP11_2, xgP11_3, xgP11_4, xgP11_5, xgP11_6, xgP11_7, xgP4_0, xl115, xs115, xgP4_9, xl120, xs120, xgP7_0, xgP7_1, xl136, xs136, xgP7_2, xl144, xs144, xgP12_0, xl160, xs160, xgP12_4, xl168, xs168, xgP12_5, xl176, xs176, xgP12_6, xl184, xs184, xgP12_7, xl192, xs192, xgP12_8, xl200, xs200, xgP12_11, xl209, xs209, xgP12_12, xl218, xs218, xgP12_13, xl226, xs226, xgP12_14, xl232, xs232, xgP12_15, xl241, xs241, xgP12_16, xl248, xs248, xgP12_17, xl256, xs256, xgP12_18, xl264, xs264, xgP12_19, xl274, xs274, xgP12_20, xl280, xs280, xgP12_22, xl288, xs288, xgP12_25, xl296, xs296, xgP12_26, xl305, xs305, xgP12_27, xl312, xs312, xgP12_28, xl321, xs321, xgP12_29, xl328, xs328, xgP12_31, xl336, xs336, xgP12_33, xl344, xs344, xgP12_46, xl352, xs352, xgP12_47, xl360, xs360, xgP2_0, xpL2_0, xgP2_1, xpL2_1, xgP2_2, xpL2_2, xgI2, xwZ2, xpR2, xmo, xpL_5, xpL_33, xpL_34, xpL_35, xpL_36, xpL_37, Nat.reduceMul, Nat.reduceAdd, hN.1, wp_ite, i3m2, i3m4, i3m5, i3m6, i3m7, i3m12, i3m60, i3m72, i3m1600, i3r6, i3p1, i3p2, i3p3, i3p4, i3p5, i3p6, i3p7, i3p8, i3p9, i3p20, i3_add, i3_mul, i3_toNat, inA_i3, i3_lt, i3_le, i3_eq, hle, if_false, g3, hlt, true_and]
    by_cases e : v.2 k 0 = 1
    · rw [if_neg (fun z => z e)]
      refine ih _ ν ⟨rfl, ?_⟩
      rw [cnt_succ]; simp [e]
    · rw [if_pos e]
      refine ih _ ν ⟨rfl, ?_⟩
      rw [cnt_succ]; simp [e]
def fCount (s : q_St) (q : Int32) : Int32 := if q = 0 then q_i3 (dT (sD s)) else if q = 1 then q_i3 (vN (sM s)) else if q = 2 then q_i3 (sT s).1 else if q = 3 then q_i3 (sO s).1.length else if q = 4 then q_i3 (sU s).length else if q = 5 then q_i3 (sR s).1 else if q = 6 then q_i3 (q_sN s).1 else if q = 7 then q_i3 (q_cnt (fun t => (q_sN s).2 t 0 == 1) (q_sN s).1) else if q = 8 then q_i3 (sP' s).1 else -1
theorem c_count {μ : Mem} {b c : Nat} {s : q_St} (hK : K0 μ b) (hW : WF μ) (hA : q_AC μ b s) (hI : Iv s c) (q : Int32) : q_wp (F_X11_count b q) μ (fun r ν => r = fCount s q ∧ cOK μ b s 0 0 ν) := by
  obtain ⟨hM, hL, hO, hT, hD, hR, hN, hU, hP⟩ := id hA
  have hok := cOK.rf (x := 0) (y := 0) hK hW hA
  have hn := hI.2.2.2.2.2.2.1.1
  unfold F_X11_count fCount
  simp only [swF_cons, swF_nil, wp_ite]
  by_cases h0 : q = 0
  · simp only [h0, if_true]; simp (maxSteps := 2000000) (disch := first | assumption | omega | (simp only [K0_sI, K0_sL, K0_tI, K0_tL, K0_nE]; assumption)) only [wp_bn, wp_rt, wp_ite, wp_rz, xgI11, xgL11, xwI11, xpR11, xgI4, xgL4, xwI4, xpR4, xgI7, xgL7, xwI7, xpR7, xgI12, xgL12, xwI12, xpR12, xgP11_0, xgP11_1, xgP11_2, xgP11_3, xgP11_4, xgP11_5, xgP11_6, xgP11_7, xgP4_0, xl115, xs115, xgP4_9, xl120, xs120, xgP7_0, xgP7_1, xl136, xs136, xgP7_2, xl144, xs144, xgP12_0, xl160, xs160, xgP12_4, xl168, xs168, xgP12_5, xl176, xs176, xgP12_6, xl184, xs184, xgP12_7, xl192, xs192, xgP12_8, xl200, xs200, xgP12_11, xl209, xs209, xgP12_12, xl218, xs218, xgP12_13, xl226, xs226, xgP12_14, xl232, xs232, xgP12_15, xl241, xs241, xgP12_16, xl248, xs248, xgP12_17, xl256, xs256, xgP12_18, xl264, xs264, xgP12_19, xl274, xs274, xgP12_20, xl280, xs280, xgP12_22, xl288, xs288, xgP12_25, xl296, xs296, xgP12_26, xl305, xs305, xgP12_27, xl312, xs312, xgP12_28, xl321, xs321, xgP12_29, xl328, xs328, xgP12_31, xl336, xs336, xgP12_33, xl344, xs344, xgP12_46, xl352, xs352, xgP12_47, xl360, xs360, xgP2_0, xpL2_0, xgP2_1, xpL2_1, xgP2_2, xpL2_2, xgI2, xwZ2, xpR2, xmo, xpL_5, xpL_33, xpL_34, xpL_35, xpL_36, xpL_37, Nat.reduceMul, Nat.reduceAdd, hD.1]; exact ⟨trivial, hok⟩
  by_cases h1 : q = 1
  · simp (decide := true) only [h1, if_true, if_false]; simp (maxSteps := 2000000) (disch := first | assumption | omega | (simp only [K0_sI, K0_sL, K0_tI, K0_tL, K0_nE]; assumption)) only [wp_bn, wp_rt, wp_ite, wp_rz, xgI11, xgL11, xwI11, xpR11, xgI4, xgL4, xwI4, xpR4, xgI7, xgL7, xwI7, xpR7, xgI12, xgL12, xwI12, xpR12, xgP11_0, xgP11_1, xgP11_2, xgP11_3, xgP11_4, xgP11_5, xgP11_6, xgP11_7, xgP4_0, xl115, xs115, xgP4_9, xl120, xs120, xgP7_0, xgP7_1, xl136, xs136, xgP7_2, xl144, xs144, xgP12_0, xl160, xs160, xgP12_4, xl168, xs168, xgP12_5, xl176, xs176, xgP12_6, xl184, xs184, xgP12_7, xl192, xs192, xgP12_8, xl200, xs200, xgP12_11, xl209, xs209, xgP12_12, xl218, xs218, xgP12_13, xl226, xs226, xgP12_14, xl232, xs232, xgP12_15, xl241, xs241, xgP12_16, xl248, xs248, xgP12_17, xl256, xs256, xgP12_18, xl264, xs264, xgP12_19, xl274, xs274, xgP12_20, xl280, xs280, xgP12_22, xl288, xs288, xgP12_25, xl296, xs296, xgP12_26, xl305, xs305, xgP12_27, xl312, xs312, xgP12_28, xl321, xs321, xgP12_29, xl328, xs328, xgP12_31, xl336, xs336, xgP12_33, xl344, xs344, xgP12_46, xl352, xs352, xgP12_47, xl360, xs360, xgP2_0, xpL2_0, xgP2_1, xpL2_1, xgP2_2, xpL2_2, xgI2, xwZ2, xpR2, xmo, xpL_5, xpL_33, xpL_34, xpL_35, xpL_36, xpL_37, Nat.reduceMul, Nat.reduceAdd, wp_eq (ls_size hW (hK.k 33 14 (by decide))), hM.1]; exact ⟨trivial, hok⟩
  by_cases h2 : q = 2
  · simp (decide := true) only [h2, if_true, if_false]; simp (maxSteps := 2000000) (disch := first | assumption | omega | (simp only [K0_sI, K0_sL, K0_tI, K0_tL, K0_nE]; assumption)) only [wp_bn, wp_rt, wp_ite, wp_rz, xgI11, xgL11, xwI11, xpR11, xgI4, xgL4, xwI4, xpR4, xgI7, xgL7, xwI7, xpR7, xgI12, xgL12, xwI12, xpR12, xgP11_0, xgP11_1, xgP11_2, xgP11_3, xgP11_4, xgP11_5, xgP11_6, xgP11_7, xgP4_0, xl115, xs115, xgP4_9, xl120, xs120, xgP7_0, xgP7_1, xl136, xs136, xgP7_2, xl144, xs144, xgP12_0, xl160, xs160, xgP12_4, xl168, xs168, xgP12_5, xl176, xs176, xgP12_6, xl184, xs184, xgP12_7, xl192, xs192, xgP12_8, xl200, xs200, xgP12_11, xl209, xs209, xgP12_12, xl218, xs218, xgP12_13, xl226, xs226, xgP12_14, xl232, xs232, xgP12_15, xl241, xs241, xgP12_16, xl248, xs248, xgP12_17, xl256, xs256, xgP12_18, xl264, xs264, xgP12_19, xl274, xs274, xgP12_20, xl280, xs280, xgP12_22, xl288, xs288, xgP12_25, xl296, xs296, xgP12_26, xl305, xs305, xgP12_27, xl312, xs312, xgP12_28, xl321, xs321, xgP12_29, xl328, xs328, xgP12_31, xl336, xs336, xgP12_33, xl344, xs344, xgP12_46, xl352, xs352, xgP12_47, xl360, xs360, xgP2_0, xpL2_0, xgP2_1, xpL2_1, xgP2_2, xpL2_2, xgI2, xwZ2, xpR2, xmo, xpL_5, xpL_33, xpL_34, xpL_35, xpL_36, xpL_37, Nat.reduceMul, Nat.reduceAdd, wp_eq (ls_size hW (hK.k 34 14 (by decide))), hT.1]; exact ⟨trivial, hok⟩
  by_cases h3 : q = 3
  · simp (decide := true) only [h3, if_true, if_false]; simp (maxSteps := 2000000) (disch := first | assumption | omega | (simp only [K0_sI, K0_sL, K0_tI, K0_tL, K0_nE]; assumption)) only [wp_bn, wp_rt, wp_ite, wp_rz, xgI11, xgL11, xwI11, xpR11, xgI4, xgL4, xwI4, xpR4, xgI7, xgL7, xwI7, xpR7, xgI12, xgL12, xwI12, xpR12, xgP11_0, xgP11_1, xgP11_2, xgP11_3, xgP11_4, xgP11_5, xgP11_6, xgP11_7, xgP4_0, xl115, xs115, xgP4_9, xl120, xs120, xgP7_0, xgP7_1, xl136, xs136, xgP7_2, xl144, xs144, xgP12_0, xl160, xs160, xgP12_4, xl168, xs168, xgP12_5, xl176, xs176, xgP12_6, xl184, xs184, xgP12_7, xl192, xs192, xgP12_8, xl200, xs200, xgP12_11, xl209, xs209, xgP12_12, xl218, xs218, xgP12_13, xl226, xs226, xgP12_14, xl232, xs232, xgP12_15, xl241, xs241, xgP12_16, xl248, xs248, xgP12_17, xl256, xs256, xgP12_18, xl264, xs264, xgP12_19, xl274, xs274, xgP12_20, xl280, xs280, xgP12_22, xl288, xs288, xgP12_25, xl296, xs296, xgP12_26, xl305, xs305, xgP12_27, xl312, xs312, xgP12_28, xl321, xs321, xgP12_29, xl328, xs328, xgP12_31, xl336, xs336, xgP12_33, xl344, xs344, xgP12_46, xl352, xs352, xgP12_47, xl360, xs360, xgP2_0, xpL2_0, xgP2_1, xpL2_1, xgP2_2, xpL2_2, xgI2, xwZ2, xpR2, xmo, xpL_5, xpL_33, xpL_34, xpL_35, xpL_36, xpL_37, Nat.reduceMul, Nat.reduceAdd, wp_eq (c_allWaiting hK hW hO)]; exact ⟨trivial, hok⟩
  by_cases h4 : q = 4
  · simp (decide := true) only [h4, if_true, if_false]; simp (maxSteps := 2000000) (disch := first | assumption | omega | (simp only [K0_sI, K0_sL, K0_tI, K0_tL, K0_nE]; assumption)) only [wp_bn, wp_rt, wp_ite, wp_rz, xgI11, xgL11, xwI11, xpR11, xgI4, xgL4, xwI4, xpR4, xgI7, xgL7, xwI7, xpR7, xgI12, xgL12, xwI12, xpR12, xgP11_0, xgP11_1, xgP11_2, xgP11_3, xgP11_4, xgP11_5, xgP11_6, xgP11_7, xgP4_0, xl115, xs115, xgP4_9, xl120, xs120, xgP7_0, xgP7_1, xl136, xs136, xgP7_2, xl144, xs144, xgP12_0, xl160, xs160, xgP12_4, xl168, xs168, xgP12_5, xl176, xs176, xgP12_6, xl184, xs184, xgP12_7, xl192, xs192, xgP12_8, xl200, xs200, xgP12_11, xl209, xs209, xgP12_12, xl218, xs218, xgP12_13, xl226, xs226, xgP12_14, xl232, xs232, xgP12_15, xl241, xs241, xgP12_16, xl248, xs248, xgP12_17, xl256, xs256, xgP12_18, xl264, xs264, xgP12_19, xl274, xs274, xgP12_20, xl280, xs280, xgP12_22, xl288, xs288, xgP12_25, xl296, xs296, xgP12_26, xl305, xs305, xgP12_27, xl312, xs312, xgP12_28, xl321, xs321, xgP12_29, xl328, xs328, xgP12_31, xl336, xs336, xgP12_33, xl344, xs344, xgP12_46, xl352, xs352, xgP12_47, xl360, xs360, xgP2_0, xpL2_0, xgP2_1, xpL2_1, xgP2_2, xpL2_2, xgI2, xwZ2, xpR2, xmo, xpL_5, xpL_33, xpL_34, xpL_35, xpL_36, xpL_37, Nat.reduceMul, Nat.reduceAdd, wp_eq (ls_size hW (hK.k 5 14 (by decide))), hU.1]; exact ⟨trivial, hok⟩
  by_cases h5 : q = 5
  · simp (decide := true) only [h5, if_true, if_false]; simp (maxSteps := 2000000) (disch := first | assumption | omega | (simp only [K0_sI, K0_sL, K0_tI, K0_tL, K0_nE]; assumption)) only [wp_bn, wp_rt, wp_ite, wp_rz, xgI11, xgL11, xwI11, xpR11, xgI4, xgL4, xwI4, xpR4, xgI7, xgL7, xwI7, xpR7, xgI12, xgL12, xwI12, xpR12, xgP11_0, xgP11_1, xgP11_2, xgP11_3, xgP11_4, xgP11_5, xgP11_6, xgP11_7, xgP4_0, xl115, xs115, xgP4_9, xl120, xs120, xgP7_0, xgP7_1, xl136, xs136, xgP7_2, xl144, xs144, xgP12_0, xl160, xs160, xgP12_4, xl168, xs168, xgP12_5, xl176, xs176, xgP12_6, xl184, xs184, xgP12_7, xl192, xs192, xgP12_8, xl200, xs200, xgP12_11, xl209, xs209, xgP12_12, xl218, xs218, xgP12_13, xl226, xs226, xgP12_14, xl232, xs232, xgP12_15, xl241, xs241, xgP12_16, xl248, xs248, xgP12_17, xl256, xs256, xgP12_18, xl264, xs264, xgP12_19, xl274, xs274, xgP12_20, xl280, xs280, xgP12_22, xl288, xs288, xgP12_25, xl296, xs296, xgP12_26, xl305, xs305, xgP12_27, xl312, xs312, xgP12_28, xl321, xs321, xgP12_29, xl328, xs328, xgP12_31, xl336, xs336, xgP12_33, xl344, xs344, xgP12_46, xl352, xs352, xgP12_47, xl360, xs360, xgP2_0, xpL2_0, xgP2_1, xpL2_1, xgP2_2, xpL2_2, xgI2, xwZ2, xpR2, xmo, xpL_5, xpL_33, xpL_34, xpL_35, xpL_36, xpL_37, Nat.reduceMul, Nat.reduceAdd, wp_eq (ls_size hW (hK.k 35 14 (by decide))), hR.1]; exact ⟨trivial, hok⟩
  by_cases h6 : q = 6
  · simp (decide := true) only [h6, if_true, if_false]; simp (maxSteps := 2000000) (disch := first | assumption | omega | (simp only [K0_sI, K0_sL, K0_tI, K0_tL, K0_nE]; assumption)) only [wp_bn, wp_rt, wp_ite, wp_rz, xgI11, xgL11, xwI11, xpR11, xgI4, xgL4, xwI4, xpR4, xgI7, xgL7, xwI7, xpR7, xgI12, xgL12, xwI12, xpR12, xgP11_0, xgP11_1, xgP11_2, xgP11_3, xgP11_4, xgP11_5, xgP11_6, xgP11_7, xgP4_0, xl115, xs115, xgP4_9, xl120, xs120, xgP7_0, xgP7_1, xl136, xs136, xgP7_2, xl144, xs144, xgP12_0, xl160, xs160, xgP12_4, xl168, xs168, xgP12_5, xl176, xs176, xgP12_6, xl184, xs184, xgP12_7, xl192, xs192, xgP12_8, xl200, xs200, xgP12_11, xl209, xs209, xgP12_12, xl218, xs218, xgP12_13, xl226, xs226, xgP12_14, xl232, xs232, xgP12_15, xl241, xs241, xgP12_16, xl248, xs248, xgP12_17, xl256, xs256, xgP12_18, xl264, xs264, xgP12_19, xl274, xs274, xgP12_20, xl280, xs280, xgP12_22, xl288, xs288, xgP12_25, xl296, xs296, xgP12_26, xl305, xs305, xgP12_27, xl312, xs312, xgP12_28, xl321, xs321, xgP12_29, xl328, xs328, xgP12_31, xl336, xs336, xgP12_33, xl344, xs344, xgP12_46, xl352, xs352, xgP12_47, xl360, xs360, xgP2_0, xpL2_0, xgP2_1, xpL2_1, xgP2_2, xpL2_2, xgI2, xwZ2, xpR2, xmo, xpL_5, xpL_33, xpL_34, xpL_35, xpL_36, xpL_37, Nat.reduceMul, Nat.reduceAdd, wp_eq (ls_size hW (hK.k 36 14 (by decide))), hN.1]; exact ⟨trivial, hok⟩
  by_cases h7 : q = 7
  · simp (decide := true) only [h7, if_true, if_false]; simp (maxSteps := 2000000) (disch := first | assumption | omega | (simp only [K0_sI, K0_sL, K0_tI, K0_tL, K0_nE]; assumption)) only [wp_bn, wp_rt, wp_ite, wp_rz, xgI11, xgL11, xwI11, xpR11, xgI4, xgL4, xwI4, xpR4, xgI7, xgL7, xwI7, xpR7, xgI12, xgL12, xwI12, xpR12, xgP11_0, xgP11_1, xgP11_2, xgP11_3, xgP11_4, xgP11_5, xgP11_6, xgP11_7, xgP4_0, xl115, xs115, xgP4_9, xl120, xs120, xgP7_0, xgP7_1, xl136, xs136, xgP7_2, xl144, xs144, xgP12_0, xl160, xs160, xgP12_4, xl168, xs168, xgP12_5, xl176, xs176, xgP12_6, xl184, xs184, xgP12_7, xl192, xs192, xgP12_8, xl200, xs200, xgP12_11, xl209, xs209, xgP12_12, xl218, xs218, xgP12_13, xl226, xs226, xgP12_14, xl232, xs232, xgP12_15, xl241, xs241, xgP12_16, xl248, xs248, xgP12_17, xl256, xs256, xgP12_18, xl264, xs264, xgP12_19, xl274, xs274, xgP12_20, xl280, xs280, xgP12_22, xl288, xs288, xgP12_25, xl296, xs296, xgP12_26, xl305, xs305, xgP12_27, xl312, xs312, xgP12_28, xl321, xs321, xgP12_29, xl328, xs328, xgP12_31, xl336, xs336, xgP12_33, xl344, xs344, xgP12_46, xl352, xs352, xgP12_47, xl360, xs360, xgP2_0, xpL2_0, xgP2_1, xpL2_1, xgP2_2, xpL2_2, xgI2, xwZ2, xpR2, xmo, xpL_5, xpL_33, xpL_34, xpL_35, xpL_36, xpL_37, Nat.reduceMul, Nat.reduceAdd, wp_eq (c_allHeld hK hW hN hn)]; exact ⟨trivial, hok⟩
  by_cases h8 : q = 8
  · simp (decide := true) only [h8, if_true, if_false]; simp (maxSteps := 2000000) (disch := first | assumption | omega | (simp only [K0_sI, K0_sL, K0_tI, K0_tL, K0_nE]; assumption)) only [wp_bn, wp_rt, wp_ite, wp_rz, xgI11, xgL11, xwI11, xpR11, xgI4, xgL4, xwI4, xpR4, xgI7, xgL7, xwI7, xpR7, xgI12, xgL12, xwI12, xpR12, xgP11_0, xgP11_1, xgP11_2, xgP11_3, xgP11_4, xgP11_5, xgP11_6, xgP11_7, xgP4_0, xl115, xs115, xgP4_9, xl120, xs120, xgP7_0, xgP7_1, xl136, xs136, xgP7_2, xl144, xs144, xgP12_0, xl160, xs160, xgP12_4, xl168, xs168, xgP12_5, xl176, xs176, xgP12_6, xl184, xs184, xgP12_7, xl192, xs192, xgP12_8, xl200, xs200, xgP12_11, xl209, xs209, xgP12_12, xl218, xs218, xgP12_13, xl226, xs226, xgP12_14, xl232, xs232, xgP12_15, xl241, xs241, xgP12_16, xl248, xs248, xgP12_17, xl256, xs256, xgP12_18, xl264, xs264, xgP12_19, xl274, xs274, xgP12_20, xl280, xs280, xgP12_22, xl288, xs288, xgP12_25, xl296, xs296, xgP12_26, xl305, xs305, xgP12_27, xl312, xs312, xgP12_28, xl321, xs321, xgP12_29, xl328, xs328, xgP12_31, xl336, xs336, xgP12_33, xl344, xs344, xgP12_46, xl352, xs352, xgP12_47, xl360, xs360, xgP2_0, xpL2_0, xgP2_1, xpL2_1, xgP2_2, xpL2_2, xgI2, xwZ2, xpR2, xmo, xpL_5, xpL_33, xpL_34, xpL_35, xpL_36, xpL_37, Nat.reduceMul, Nat.reduceAdd, hP.1]; exact ⟨trivial, hok⟩
  simp only [h0, h1, h2, h3, h4, h5, h6, h7, h8, if_false, wp_rt]; exact ⟨trivial, hok⟩
theorem r_count {μ : Mem} {b c : Nat} {s : q_St} (hK : K0 μ b) (hA : q_AR μ b s) (hI : Iv s c) (q : Int32) : q_wp (F_X12_count (b + 38) q) μ (fun r ν => r = fCount s q ∧ rOK μ b s 0 ν) := by
  have hn := hI.2.2.2.2.2.2.1.1
  unfold F_X12_count
  refine r_start hK hA fun μ hK hA hz => ?_
  obtain ⟨hM, hL, hO, hT, hD, hR, hN, hU, hP⟩ := id hA
  have hok := rOK.rf hA hz
  unfold fCount
  simp only [swF_cons, swF_nil, wp_ite]
  by_cases h0 : q = 0
  · simp only [h0, if_true]; simp (maxSteps := 2000000) (disch := first | assumption | omega | (simp only [K0_sI, K0_sL, K0_tI, K0_tL, K0_nE]; assumption)) only [wp_bn, wp_rt, wp_ite, wp_rz, xgI11, xgL11, xwI11, xpR11, xgI4, xgL4, xwI4, xpR4, xgI7, xgL7, xwI7, xpR7, xgI12, xgL12, xwI12, xpR12, xgP11_0, xgP11_1, xgP11_2, xgP11_3, xgP11_4, xgP11_5, xgP11_6, xgP11_7, xgP4_0, xl115, xs115, xgP4_9, xl120, xs120, xgP7_0, xgP7_1, xl136, xs136, xgP7_2, xl144, xs144, xgP12_0, xl160, xs160, xgP12_4, xl168, xs168, xgP12_5, xl176, xs176, xgP12_6, xl184, xs184, xgP12_7, xl192, xs192, xgP12_8, xl200, xs200, xgP12_11, xl209, xs209, xgP12_12, xl218, xs218, xgP12_13, xl226, xs226, xgP12_14, xl232, xs232, xgP12_15, xl241, xs241, xgP12_16, xl248, xs248, xgP12_17, xl256, xs256, xgP12_18, xl264, xs264, xgP12_19, xl274, xs274, xgP12_20, xl280, xs280, xgP12_22, xl288, xs288, xgP12_25, xl296, xs296, xgP12_26, xl305, xs305, xgP12_27, xl312, xs312, xgP12_28, xl321, xs321, xgP12_29, xl328, xs328, xgP12_31, xl336, xs336, xgP12_33, xl344, xs344, xgP12_46, xl352, xs352, xgP12_47, xl360, xs360, xgP2_0, xpL2_0, xgP2_1, xpL2_1, xgP2_2, xpL2_2, xgI2, xwZ2, xpR2, xmo, xpL_5, xpL_33, xpL_34, xpL_35, xpL_36, xpL_37, Nat.reduceMul, Nat.reduceAdd, hD.1]; exact ⟨trivial, hok⟩
  by_cases h1 : q = 1
  · simp (decide := true) only [h1, if_true, if_false]; simp (maxSteps := 2000000) (disch := first | assumption | omega | (simp only [K0_sI, K0_sL, K0_tI, K0_tL, K0_nE]; assumption)) only [wp_bn, wp_rt, wp_ite, wp_rz, xgI11, xgL11, xwI11, xpR11, xgI4, xgL4, xwI4, xpR4, xgI7, xgL7, xwI7, xpR7, xgI12, xgL12, xwI12, xpR12, xgP11_0, xgP11_1, xgP11_2, xgP11_3, xgP11_4, xgP11_5, xgP11_6, xgP11_7, xgP4_0, xl115, xs115, xgP4_9, xl120, xs120, xgP7_0, xgP7_1, xl136, xs136, xgP7_2, xl144, xs144, xgP12_0, xl160, xs160, xgP12_4, xl168, xs168, xgP12_5, xl176, xs176, xgP12_6, xl184, xs184, xgP12_7, xl192, xs192, xgP12_8, xl200, xs200, xgP12_11, xl209, xs209, xgP12_12, xl218, xs218, xgP12_13, xl226, xs226, xgP12_14, xl232, xs232, xgP12_15, xl241, xs241, xgP12_16, xl248, xs248, xgP12_17, xl256, xs256, xgP12_18, xl264, xs264, xgP12_19, xl274, xs274, xgP12_20, xl280, xs280, xgP12_22, xl288, xs288, xgP12_25, xl296, xs296, xgP12_26, xl305, xs305, xgP12_27, xl312, xs312, xgP12_28, xl321, xs321, xgP12_29, xl328, xs328, xgP12_31, xl336, xs336, xgP12_33, xl344, xs344, xgP12_46, xl352, xs352, xgP12_47, xl360, xs360, xgP2_0, xpL2_0, xgP2_1, xpL2_1, xgP2_2, xpL2_2, xgI2, xwZ2, xpR2, xmo, xpL_5, xpL_33, xpL_34, xpL_35, xpL_36, xpL_37, Nat.reduceMul, Nat.reduceAdd, hM.1]; exact ⟨trivial, hok⟩
  by_cases h2 : q = 2
  · simp (decide := true) only [h2, if_true, if_false]; simp (maxSteps := 2000000) (disch := first | assumption | omega | (simp only [K0_sI, K0_sL, K0_tI, K0_tL, K0_nE]; assumption)) only [wp_bn, wp_rt, wp_ite, wp_rz, xgI11, xgL11, xwI11, xpR11, xgI4, xgL4, xwI4, xpR4, xgI7, xgL7, xwI7, xpR7, xgI12, xgL12, xwI12, xpR12, xgP11_0, xgP11_1, xgP11_2, xgP11_3, xgP11_4, xgP11_5, xgP11_6, xgP11_7, xgP4_0, xl115, xs115, xgP4_9, xl120, xs120, xgP7_0, xgP7_1, xl136, xs136, xgP7_2, xl144, xs144, xgP12_0, xl160, xs160, xgP12_4, xl168, xs168, xgP12_5, xl176, xs176, xgP12_6, xl184, xs184, xgP12_7, xl192, xs192, xgP12_8, xl200, xs200, xgP12_11, xl209, xs209, xgP12_12, xl218, xs218, xgP12_13, xl226, xs226, xgP12_14, xl232, xs232, xgP12_15, xl241, xs241, xgP12_16, xl248, xs248, xgP12_17, xl256, xs256, xgP12_18, xl264, xs264, xgP12_19, xl274, xs274, xgP12_20, xl280, xs280, xgP12_22, xl288, xs288, xgP12_25, xl296, xs296, xgP12_26, xl305, xs305, xgP12_27, xl312, xs312, xgP12_28, xl321, xs321, xgP12_29, xl328, xs328, xgP12_31, xl336, xs336, xgP12_33, xl344, xs344, xgP12_46, xl352, xs352, xgP12_47, xl360, xs360, xgP2_0, xpL2_0, xgP2_1, xpL2_1, xgP2_2, xpL2_2, xgI2, xwZ2, xpR2, xmo, xpL_5, xpL_33, xpL_34, xpL_35, xpL_36, xpL_37, Nat.reduceMul, Nat.reduceAdd, hT.1]; exact ⟨trivial, hok⟩
  by_cases h3 : q = 3
  · simp (decide := true) only [h3, if_true, if_false]; simp (maxSteps := 2000000) (disch := first | assumption | omega | (simp only [K0_sI, K0_sL, K0_tI, K0_tL, K0_nE]; assumption)) only [wp_bn, wp_rt, wp_ite, wp_rz, xgI11, xgL11, xwI11, xpR11, xgI4, xgL4, xwI4, xpR4, xgI7, xgL7, xwI7, xpR7, xgI12, xgL12, xwI12, xpR12, xgP11_0, xgP11_1, xgP11_2, xgP11_3, xgP11_4, xgP11_5, xgP11_6, xgP11_7, xgP4_0, xl115, xs115, xgP4_9, xl120, xs120, xgP7_0, xgP7_1, xl136, xs136, xgP7_2, xl144, xs144, xgP12_0, xl160, xs160, xgP12_4, xl168, xs168, xgP12_5, xl176, xs176, xgP12_6, xl184, xs184, xgP12_7, xl192, xs192, xgP12_8, xl200, xs200, xgP12_11, xl209, xs209, xgP12_12, xl218, xs218, xgP12_13, xl226, xs226, xgP12_14, xl232, xs232, xgP12_15, xl241, xs241, xgP12_16, xl248, xs248, xgP12_17, xl256, xs256, xgP12_18, xl264, xs264, xgP12_19, xl274, xs274, xgP12_20, xl280, xs280, xgP12_22, xl288, xs288, xgP12_25, xl296, xs296, xgP12_26, xl305, xs305, xgP12_27, xl312, xs312, xgP12_28, xl321, xs321, xgP12_29, xl328, xs328, xgP12_31, xl336, xs336, xgP12_33, xl344, xs344, xgP12_46, xl352, xs352, xgP12_47, xl360, xs360, xgP2_0, xpL2_0, xgP2_1, xpL2_1, xgP2_2, xpL2_2, xgI2, xwZ2, xpR2, xmo, xpL_5, xpL_33, xpL_34, xpL_35, xpL_36, xpL_37, Nat.reduceMul, Nat.reduceAdd, hO.1]; exact ⟨trivial, hok⟩
  by_cases h4 : q = 4
  · simp (decide := true) only [h4, if_true, if_false]; simp (maxSteps := 2000000) (disch := first | assumption | omega | (simp only [K0_sI, K0_sL, K0_tI, K0_tL, K0_nE]; assumption)) only [wp_bn, wp_rt, wp_ite, wp_rz, xgI11, xgL11, xwI11, xpR11, xgI4, xgL4, xwI4, xpR4, xgI7, xgL7, xwI7, xpR7, xgI12, xgL12, xwI12, xpR12, xgP11_0, xgP11_1, xgP11_2, xgP11_3, xgP11_4, xgP11_5, xgP11_6, xgP11_7, xgP4_0, xl115, xs115, xgP4_9, xl120, xs120, xgP7_0, xgP7_1, xl136, xs136, xgP7_2, xl144, xs144, xgP12_0, xl160, xs160, xgP12_4, xl168, xs168, xgP12_5, xl176, xs176, xgP12_6, xl184, xs184, xgP12_7, xl192, xs192, xgP12_8, xl200, xs200, xgP12_11, xl209, xs209, xgP12_12, xl218, xs218, xgP12_13, xl226, xs226, xgP12_14, xl232, xs232, xgP12_15, xl241, xs241, xgP12_16, xl248, xs248, xgP12_17, xl256, xs256, xgP12_18, xl264, xs264, xgP12_19, xl274, xs274, xgP12_20, xl280, xs280, xgP12_22, xl288, xs288, xgP12_25, xl296, xs296, xgP12_26, xl305, xs305, xgP12_27, xl312, xs312, xgP12_28, xl321, xs321, xgP12_29, xl328, xs328, xgP12_31, xl336, xs336, xgP12_33, xl344, xs344, xgP12_46, xl352, xs352, xgP12_47, xl360, xs360, xgP2_0, xpL2_0, xgP2_1, xpL2_1, xgP2_2, xpL2_2, xgI2, xwZ2, xpR2, xmo, xpL_5, xpL_33, xpL_34, xpL_35, xpL_36, xpL_37, Nat.reduceMul, Nat.reduceAdd, hU.1]; exact ⟨trivial, hok⟩
  by_cases h5 : q = 5
  · simp (decide := true) only [h5, if_true, if_false]; simp (maxSteps := 2000000) (disch := first | assumption | omega | (simp only [K0_sI, K0_sL, K0_tI, K0_tL, K0_nE]; assumption)) only [wp_bn, wp_rt, wp_ite, wp_rz, xgI11, xgL11, xwI11, xpR11, xgI4, xgL4, xwI4, xpR4, xgI7, xgL7, xwI7, xpR7, xgI12, xgL12, xwI12, xpR12, xgP11_0, xgP11_1, xgP11_2, xgP11_3, xgP11_4, xgP11_5, xgP11_6, xgP11_7, xgP4_0, xl115, xs115, xgP4_9, xl120, xs120, xgP7_0, xgP7_1, xl136, xs136, xgP7_2, xl144, xs144, xgP12_0, xl160, xs160, xgP12_4, xl168, xs168, xgP12_5, xl176, xs176, xgP12_6, xl184, xs184, xgP12_7, xl192, xs192, xgP12_8, xl200, xs200, xgP12_11, xl209, xs209, xgP12_12, xl218, xs218, xgP12_13, xl226, xs226, xgP12_14, xl232, xs232, xgP12_15, xl241, xs241, xgP12_16, xl248, xs248, xgP12_17, xl256, xs256, xgP12_18, xl264, xs264, xgP12_19, xl274, xs274, xgP12_20, xl280, xs280, xgP12_22, xl288, xs288, xgP12_25, xl296, xs296, xgP12_26, xl305, xs305, xgP12_27, xl312, xs312, xgP12_28, xl321, xs321, xgP12_29, xl328, xs328, xgP12_31, xl336, xs336, xgP12_33, xl344, xs344, xgP12_46, xl352, xs352, xgP12_47, xl360, xs360, xgP2_0, xpL2_0, xgP2_1, xpL2_1, xgP2_2, xpL2_2, xgI2, xwZ2, xpR2, xmo, xpL_5, xpL_33, xpL_34, xpL_35, xpL_36, xpL_37, Nat.reduceMul, Nat.reduceAdd, hR.1]; exact ⟨trivial, hok⟩
  by_cases h6 : q = 6
  · simp (decide := true) only [h6, if_true, if_false]; simp (maxSteps := 2000000) (disch := first | assumption | omega | (simp only [K0_sI, K0_sL, K0_tI, K0_tL, K0_nE]; assumption)) only [wp_bn, wp_rt, wp_ite, wp_rz, xgI11, xgL11, xwI11, xpR11, xgI4, xgL4, xwI4, xpR4, xgI7, xgL7, xwI7, xpR7, xgI12, xgL12, xwI12, xpR12, xgP11_0, xgP11_1, xgP11_2, xgP11_3, xgP11_4, xgP11_5, xgP11_6, xgP11_7, xgP4_0, xl115, xs115, xgP4_9, xl120, xs120, xgP7_0, xgP7_1, xl136, xs136, xgP7_2, xl144, xs144, xgP12_0, xl160, xs160, xgP12_4, xl168, xs168, xgP12_5, xl176, xs176, xgP12_6, xl184, xs184, xgP12_7, xl192, xs192, xgP12_8, xl200, xs200, xgP12_11, xl209, xs209, xgP12_12, xl218, xs218, xgP12_13, xl226, xs226, xgP12_14, xl232, xs232, xgP12_15, xl241, xs241, xgP12_16, xl248, xs248, xgP12_17, xl256, xs256, xgP12_18, xl264, xs264, xgP12_19, xl274, xs274, xgP12_20, xl280, xs280, xgP12_22, xl288, xs288, xgP12_25, xl296, xs296, xgP12_26, xl305, xs305, xgP12_27, xl312, xs312, xgP12_28, xl321, xs321, xgP12_29, xl328, xs328, xgP12_31, xl336, xs336, xgP12_33, xl344, xs344, xgP12_46, xl352, xs352, xgP12_47, xl360, xs360, xgP2_0, xpL2_0, xgP2_1, xpL2_1, xgP2_2, xpL2_2, xgI2, xwZ2, xpR2, xmo, xpL_5, xpL_33, xpL_34, xpL_35, xpL_36, xpL_37, Nat.reduceMul, Nat.reduceAdd, hN.1]; exact ⟨trivial, hok⟩
  by_cases h7 : q = 7
  · simp (decide := true) only [h7, if_true, if_false]; rw [wp_eq (r_allHeld hK hN hn)]; exact ⟨rfl, hok⟩
  by_cases h8 : q = 8
  · simp (decide := true) only [h8, if_true, if_false]; simp (maxSteps := 2000000) (disch := first | assumption | omega | (simp only [K0_sI, K0_sL, K0_tI, K0_tL, K0_nE]; assumption)) only [wp_bn, wp_rt, wp_ite, wp_rz, xgI11, xgL11, xwI11, xpR11, xgI4, xgL4, xwI4, xpR4, xgI7, xgL7, xwI7, xpR7, xgI12, xgL12, xwI12, xpR12, xgP11_0, xgP11_1, xgP11_2, xgP11_3, xgP11_4, xgP11_5, xgP11_6, xgP11_7, xgP4_0, xl115, xs115, xgP4_9, xl120, xs120, xgP7_0, xgP7_1, xl136, xs136, xgP7_2, xl144, xs144, xgP12_0, xl160, xs160, xgP12_4, xl168, xs168, xgP12_5, xl176, xs176, xgP12_6, xl184, xs184, xgP12_7, xl192, xs192, xgP12_8, xl200, xs200, xgP12_11, xl209, xs209, xgP12_12, xl218, xs218, xgP12_13, xl226, xs226, xgP12_14, xl232, xs232, xgP12_15, xl241, xs241, xgP12_16, xl248, xs248, xgP12_17, xl256, xs256, xgP12_18, xl264, xs264, xgP12_19, xl274, xs274, xgP12_20, xl280, xs280, xgP12_22, xl288, xs288, xgP12_25, xl296, xs296, xgP12_26, xl305, xs305, xgP12_27, xl312, xs312, xgP12_28, xl321, xs321, xgP12_29, xl328, xs328, xgP12_31, xl336, xs336, xgP12_33, xl344, xs344, xgP12_46, xl352, xs352, xgP12_47, xl360, xs360, xgP2_0, xpL2_0, xgP2_1, xpL2_1, xgP2_2, xpL2_2, xgI2, xwZ2, xpR2, xmo, xpL_5, xpL_33, xpL_34, xpL_35, xpL_36, xpL_37, Nat.reduceMul, Nat.reduceAdd, hP.1]; exact ⟨trivial, hok⟩
  simp only [h0, h1, h2, h3, h4, h5, h6, h7, h8, if_false, wp_rt]; exact ⟨trivial, hok⟩

def fLong (s : q_St) (m i q : Int32) : Int32 := if q_inR m 6 ∧ q_inR i ((sG s).1 m.toNatClampNeg).length ∧ q_inR q 2 then (if q = 0 then (((sG s).1 m.toNatClampNeg).getD i.toNatClampNeg (0, 0)).1 else (((sG s).1 m.toNatClampNeg).getD i.toNatClampNeg (0, 0)).2) else -1
theorem q_CL.len {μ : Mem} {b i : Nat} {v : VL} (h : q_CL μ b v) (hi : i < 6) : (q_lst μ (b + (12 + 4 * i))).length = (v.1 i).length := by
  rw [← (h i hi).1, List.length_map]
theorem q_CL.at {μ : Mem} {b i k : Nat} {v : VL} (h : q_CL μ b v) (hi : i < 6) (hk : k < (v.1 i).length) : mI μ 576 ((q_lst μ (b + (12 + 4 * i))).getD k 0) = ((v.1 i).getD k (0, 0)).1 ∧ mI μ 579 ((q_lst μ (b + (12 + 4 * i))).getD k 0) = ((v.1 i).getD k (0, 0)).2 ∧ mK μ ((q_lst μ (b + (12 + 4 * i))).getD k 0) = 10 := by
  have hl := h.len hi
  have e : (v.1 i).getD k (0, 0) = (mI μ 576 ((q_lst μ (b + (12 + 4 * i))).getD k 0), mI μ 579 ((q_lst μ (b + (12 + 4 * i))).getD k 0)) := by
    rw [← (h i hi).1]
    simp only [List.getD_eq_getElem?_getD, List.getElem?_map]
    rw [List.getElem?_eq_getElem (by omega)]; rfl
  rw [e]
  exact ⟨rfl, rfl, (h i hi).2.1 _ (getD_mem (by omega))⟩
theorem inR_lt {p : Int32} {n : Nat} (hn : n < 2147483648) : q_inR p n ↔ ¬ p < 0 ∧ p < q_i3 n := by
  have h0 : (0 : Int32).toInt = 0 := rfl
  rw [Int32.lt_iff_toInt_lt, Int32.lt_iff_toInt_lt, i3_toInt hn, h0]
  unfold q_inR; omega
theorem c_longOf {μ : Mem} {b c : Nat} {s : q_St} (hK : K0 μ b) (hW : WF μ) (hA : q_AC μ b s) (p i q : Int32) : q_wp (F_X11_longOf b p i q) μ (fun r ν => r = fLong s p i q ∧ cOK μ b s 0 0 ν) := by
  obtain ⟨hM, hL, hO, hT, hD, hR, hN, hU, hP⟩ := id hA
  have hok := cOK.rf (x := 0) (y := 0) hK hW hA
  obtain ⟨R, eR⟩ : ∃ R, R = fLong s p i q := ⟨_, rfl⟩
  rw [← eR]
  unfold fLong at eR
  unfold F_X11_longOf
  rw [wp_bn, wp_eq c_isMonth, wp_ite]
  by_cases h : q_inR p 6
  · obtain ⟨m, hm, rfl⟩ := inR_i3 h
    rw [i3_toNat (by omega)] at eR
    rw [if_pos h, if_neg (by decide), wp_ite]
    obtain ⟨_, _, _, _, _, _, k12⟩ := hK.mo hm
    have hlen := hL.len hm
    have hb := (hW.ls k12).2.1
    by_cases h2 : q_inR i ((sG s).1 m).length
    · obtain ⟨k, hk, rfl⟩ := inR_i3 h2
      obtain ⟨a1, a2, a3⟩ := hL.at hm hk
      have hlt : k < (q_lst μ (b + (12 + 4 * m))).length := by omega
      rw [if_neg (i3_nn (by omega))]
      simp (maxSteps := 2000000) (disch := first | assumption | omega | (simp only [K0_sI, K0_sL, K0_tI, K0_tL, K0_nE]; assumption)) only [wp_bn, xgI11, xgL11, xwI11, xpR11, xgI4, xgL4, xwI4, xpR4, xgI7, xgL7, xwI7, xpR7, xgI12, xgL12, xwI12, xpR12, xgP11_0, xgP11_1, xgP11_2, xgP11_3, xgP11_4, xgP11_5, xgP11_6, xgP11_7, xgP4_0, xl115, xs115, xgP4_9, xl120, xs120, xgP7_0, xgP7_1, xl136, xs136, xgP7_2, xl144, xs144, xgP12_0, xl160, xs160, xgP12_4, xl168, xs168, xgP12_5, xl176, xs176, xgP12_6, xl184, xs184, xgP12_7, xl192, xs192, xgP12_8, xl200, xs200, xgP12_11, xl209, xs209, xgP12_12, xl218, xs218, xgP12_13, xl226, xs226, xgP12_14, xl232, xs232, xgP12_15, xl241, xs241, xgP12_16, xl248, xs248, xgP12_17, xl256, xs256, xgP12_18, xl264, xs264, xgP12_19, xl274, xs274, xgP12_20, xl280, xs280, xgP12_22, xl288, xs288, xgP12_25, xl296, xs296, xgP12_26, xl305, xs305, xgP12_27, xl312, xs312, xgP12_28, xl321, xs321, xgP12_29, xl328, xs328, xgP12_31, xl336, xs336, xgP12_33, xl344, xs344, xgP12_46, xl352, xs352, xgP12_47, xl360, xs360, xgP2_0, xpL2_0, xgP2_1, xpL2_1, xgP2_2, xpL2_2, xgI2, xwZ2, xpR2, xmo, xpL_5, xpL_33, xpL_34, xpL_35, xpL_36, xpL_37, wp_eq (ls_size hW k12), wp_ite, i3m2, i3m4, i3m5, i3m6, i3m7, i3m12, i3m60, i3m72, i3m1600, i3r6, i3p1, i3p2, i3p3, i3p4, i3p5, i3p6, i3p7, i3p8, i3p9, i3p20, i3_add, i3_mul, i3_toNat, inA_i3, i3_lt, i3_le, i3_eq, hlt, if_true, wp_eq (ls_get hW k12 hlt), wp_cst, a3, true_and]
      rw [i3_toNat (by omega)] at eR
      by_cases h3 : q_inR q 2
      · rw [if_pos ⟨h, h2, h3⟩] at eR
        obtain ⟨j, hj, rfl⟩ := inR_i3 h3
        rcases (show j = 0 ∨ j = 1 by omega) with rfl | rfl
        · rw [if_pos (by decide)] at eR
          simp (decide := true) only [swF_cons, swF_nil, wp_bn, wp_rt, wp_ite, wp_gI, true_and, if_true, if_false, a3]; exact ⟨by rw [eR]; exact a1, hok⟩
        · rw [if_neg (by decide)] at eR
          simp (decide := true) only [swF_cons, swF_nil, wp_bn, wp_rt, wp_ite, wp_gI, true_and, if_true, if_false, a3]; exact ⟨by rw [eR]; exact a2, hok⟩
      · rw [if_neg (fun z => h3 z.2.2)] at eR
        have n0 : ¬ q = 0 := ne_lit h3 0 (by omega) (by omega)
        have n1 : ¬ q = 1 := ne_lit h3 1 (by omega) (by omega)
        simp only [swF_cons, swF_nil, wp_bn, wp_rt, wp_ite, wp_gI, true_and, if_true, if_false, n0, n1]; exact ⟨eR.symm, hok⟩
    · rw [if_neg (fun z => h2 z.2.1)] at eR
      rw [inR_lt (by omega)] at h2
      by_cases h3 : i < 0
      · rw [if_pos h3, wp_rt]; exact ⟨eR.symm, hok⟩
      · rw [if_neg h3]
        have h4 : ¬ i < q_i3 (q_lst μ (b + (12 + 4 * m))).length := by rw [hlen]; exact fun z => h2 ⟨h3, z⟩
        simp (maxSteps := 2000000) (disch := first | assumption | omega | (simp only [K0_sI, K0_sL, K0_tI, K0_tL, K0_nE]; assumption)) only [wp_bn, xgI11, xgL11, xwI11, xpR11, xgI4, xgL4, xwI4, xpR4, xgI7, xgL7, xwI7, xpR7, xgI12, xgL12, xwI12, xpR12, xgP11_0, xgP11_1, xgP11_2, xgP11_3, xgP11_4, xgP11_5, xgP11_6, xgP11_7, xgP4_0, xl115, xs115, xgP4_9, xl120, xs120, xgP7_0, xgP7_1, xl136, xs136, xgP7_2, xl144, xs144, xgP12_0, xl160, xs160, xgP12_4, xl168, xs168, xgP12_5, xl176, xs176, xgP12_6, xl184, xs184, xgP12_7, xl192, xs192, xgP12_8, xl200, xs200, xgP12_11, xl209, xs209, xgP12_12, xl218, xs218, xgP12_13, xl226, xs226, xgP12_14, xl232, xs232, xgP12_15, xl241, xs241, xgP12_16, xl248, xs248, xgP12_17, xl256, xs256, xgP12_18, xl264, xs264, xgP12_19, xl274, xs274, xgP12_20, xl280, xs280, xgP12_22, xl288, xs288, xgP12_25, xl296, xs296, xgP12_26, xl305, xs305, xgP12_27, xl312, xs312, xgP12_28, xl321, xs321, xgP12_29, xl328, xs328, xgP12_31, xl336, xs336, xgP12_33, xl344, xs344, xgP12_46, xl352, xs352, xgP12_47, xl360, xs360, xgP2_0, xpL2_0, xgP2_1, xpL2_1, xgP2_2, xpL2_2, xgI2, xwZ2, xpR2, xmo, xpL_5, xpL_33, xpL_34, xpL_35, xpL_36, xpL_37, wp_eq (ls_size hW k12), wp_ite, h4, if_false, wp_rt]
        exact ⟨eR.symm, hok⟩
  · rw [if_neg (fun z => h z.1)] at eR
    rw [if_neg h, if_pos rfl, wp_rt]; exact ⟨eR.symm, hok⟩
theorem r_longOf {μ : Mem} {b c : Nat} {s : q_St} (hK : K0 μ b) (hA : q_AR μ b s) (hI : Iv s c) (hc : c ≤ 600) (p i q : Int32) : q_wp (F_X12_longOf (b + 38) p i q) μ (fun r ν => r = fLong s p i q ∧ rOK μ b s 0 ν) := by
  unfold F_X12_longOf
  refine r_start hK hA fun μ hK hA hz => ?_
  obtain ⟨hM, hL, hO, hT, hD, hR, hN, hU, hP⟩ := id hA
  have hok := rOK.rf hA hz
  obtain ⟨R, eR⟩ : ∃ R, R = fLong s p i q := ⟨_, rfl⟩
  rw [← eR]
  unfold fLong at eR
  rw [wp_bn, wp_eq r_isMonth, wp_ite]
  by_cases h : q_inR p 6
  · obtain ⟨m, hm, rfl⟩ := inR_i3 h
    rw [i3_toNat (by omega)] at eR
    obtain ⟨g1, g2, g3⟩ := hL m hm
    have hl := (hI.2.1 m hm).1
    have hnt := hI.2.2.2.1.1
    rw [if_pos h, if_neg (by decide), wp_bn, xgP12_18 hK, wp_bn, xl264 hK, i3_toNat (by omega), g1]
    refine ⟨inA_of (by omega) hm, ?_⟩
    rw [wp_bn, wp_eq (in_cnt (by omega)), wp_ite]
    by_cases h2 : q_inR i ((sG s).1 m).length
    · obtain ⟨k, hk, rfl⟩ := inR_i3 h2
      obtain ⟨a1, a2⟩ := g3 k hk
      rw [if_pos h2, if_neg (by decide), wp_bn, wp_eq (in_lit (n := 2) rfl), wp_ite]
      rw [i3_toNat (by omega)] at eR
      by_cases h3 : q_inR q 2
      · rw [if_pos ⟨h, h2, h3⟩] at eR
        rw [if_pos h3, if_pos (by decide), wp_ite]
        obtain ⟨j, hj, rfl⟩ := inR_i3 h3
        have hlt : 1600 * m + k < 9600 := by omega
        rcases (show j = 0 ∨ j = 1 by omega) with rfl | rfl
        · rw [if_pos (by decide)] at eR
          rw [if_neg (by decide)]
          simp (maxSteps := 2000000) (disch := first | assumption | omega | (simp only [K0_sI, K0_sL, K0_tI, K0_tL, K0_nE]; assumption)) only [wp_bn, xgI11, xgL11, xwI11, xpR11, xgI4, xgL4, xwI4, xpR4, xgI7, xgL7, xwI7, xpR7, xgI12, xgL12, xwI12, xpR12, xgP11_0, xgP11_1, xgP11_2, xgP11_3, xgP11_4, xgP11_5, xgP11_6, xgP11_7, xgP4_0, xl115, xs115, xgP4_9, xl120, xs120, xgP7_0, xgP7_1, xl136, xs136, xgP7_2, xl144, xs144, xgP12_0, xl160, xs160, xgP12_4, xl168, xs168, xgP12_5, xl176, xs176, xgP12_6, xl184, xs184, xgP12_7, xl192, xs192, xgP12_8, xl200, xs200, xgP12_11, xl209, xs209, xgP12_12, xl218, xs218, xgP12_13, xl226, xs226, xgP12_14, xl232, xs232, xgP12_15, xl241, xs241, xgP12_16, xl248, xs248, xgP12_17, xl256, xs256, xgP12_18, xl264, xs264, xgP12_19, xl274, xs274, xgP12_20, xl280, xs280, xgP12_22, xl288, xs288, xgP12_25, xl296, xs296, xgP12_26, xl305, xs305, xgP12_27, xl312, xs312, xgP12_28, xl321, xs321, xgP12_29, xl328, xs328, xgP12_31, xl336, xs336, xgP12_33, xl344, xs344, xgP12_46, xl352, xs352, xgP12_47, xl360, xs360, xgP2_0, xpL2_0, xgP2_1, xpL2_1, xgP2_2, xpL2_2, xgI2, xwZ2, xpR2, xmo, xpL_5, xpL_33, xpL_34, xpL_35, xpL_36, xpL_37, i3m2, i3m4, i3m5, i3m6, i3m7, i3m12, i3m60, i3m72, i3m1600, i3r6, i3p1, i3p2, i3p3, i3p4, i3p5, i3p6, i3p7, i3p8, i3p9, i3p20, i3_add, i3_mul, i3_toNat, inA_i3, i3_lt, i3_le, i3_eq, hlt, true_and, wp_rt, a1]; exact ⟨eR.symm, hok⟩
        · rw [if_neg (by decide)] at eR
          rw [if_pos (by decide)]
          simp (maxSteps := 2000000) (disch := first | assumption | omega | (simp only [K0_sI, K0_sL, K0_tI, K0_tL, K0_nE]; assumption)) only [wp_bn, xgI11, xgL11, xwI11, xpR11, xgI4, xgL4, xwI4, xpR4, xgI7, xgL7, xwI7, xpR7, xgI12, xgL12, xwI12, xpR12, xgP11_0, xgP11_1, xgP11_2, xgP11_3, xgP11_4, xgP11_5, xgP11_6, xgP11_7, xgP4_0, xl115, xs115, xgP4_9, xl120, xs120, xgP7_0, xgP7_1, xl136, xs136, xgP7_2, xl144, xs144, xgP12_0, xl160, xs160, xgP12_4, xl168, xs168, xgP12_5, xl176, xs176, xgP12_6, xl184, xs184, xgP12_7, xl192, xs192, xgP12_8, xl200, xs200, xgP12_11, xl209, xs209, xgP12_12, xl218, xs218, xgP12_13, xl226, xs226, xgP12_14, xl232, xs232, xgP12_15, xl241, xs241, xgP12_16, xl248, xs248, xgP12_17, xl256, xs256, xgP12_18, xl264, xs264, xgP12_19, xl274, xs274, xgP12_20, xl280, xs280, xgP12_22, xl288, xs288, xgP12_25, xl296, xs296, xgP12_26, xl305, xs305, xgP12_27, xl312, xs312, xgP12_28, xl321, xs321, xgP12_29, xl328, xs328, xgP12_31, xl336, xs336, xgP12_33, xl344, xs344, xgP12_46, xl352, xs352, xgP12_47, xl360, xs360, xgP2_0, xpL2_0, xgP2_1, xpL2_1, xgP2_2, xpL2_2, xgI2, xwZ2, xpR2, xmo, xpL_5, xpL_33, xpL_34, xpL_35, xpL_36, xpL_37, i3m2, i3m4, i3m5, i3m6, i3m7, i3m12, i3m60, i3m72, i3m1600, i3r6, i3p1, i3p2, i3p3, i3p4, i3p5, i3p6, i3p7, i3p8, i3p9, i3p20, i3_add, i3_mul, i3_toNat, inA_i3, i3_lt, i3_le, i3_eq, hlt, true_and, wp_rt, a2]; exact ⟨eR.symm, hok⟩
      · rw [if_neg (fun z => h3 z.2.2)] at eR
        rw [if_neg h3, if_neg (by decide), wp_rt]; exact ⟨eR.symm, hok⟩
    · rw [if_neg (fun z => h2 z.2.1)] at eR
      rw [if_neg h2, if_pos rfl, wp_rt]; exact ⟨eR.symm, hok⟩
  · rw [if_neg (fun z => h z.1)] at eR
    rw [if_neg h, if_pos rfl, wp_rt]; exact ⟨eR.symm, hok⟩
theorem RO.bh {μ : Mem} {b : Nat} {v : q_VO} {s : Int32} (hK : K0 μ b) (hO : RO μ b v) (hI : Inc v.1) (hl : v.1.length ≤ 120) {k j : Nat} (hk : k < v.1.length) (hj : j < v.1.length) : F_X12_isBehind (b + 38) (q_i3 k) (q_i3 j) s μ = some (if bef s (v.1.getD j q_o0) (v.1.getD k q_o0) = true then 1 else 0, μ) := by
  apply eq_wp
  unfold F_X12_isBehind
  have g1 := (hO.2 k hk).2.2.2.1
  have g2 := (hO.2 j hj).2.2.2.1
  have e1 : 5 * k + 3 < 600 := by omega
  have e2 : 5 * j + 3 < 600 := by omega
  simp (maxSteps := 2000000) (disch := first | assumption | omega | (simp only [K0_sI, K0_sL, K0_tI, K0_tL, K0_nE]; assumption)) only [wp_bn, wp_rt, wp_ite, wp_rz, xgI11, xgL11, xwI11, xpR11, xgI4, xgL4, xwI4, xpR4, xgI7, xgL7, xwI7, xpR7, xgI12, xgL12, xwI12, xpR12, xgP11_0, xgP11_1, xgP11_2, xgP11_3, xgP11_4, xgP11_5, xgP11_6, xgP11_7, xgP4_0, xl115, xs115, xgP4_9, xl120, xs120, xgP7_0, xgP7_1, xl136, xs136, xgP7_2, xl144, xs144, xgP12_0, xl160, xs160, xgP12_4, xl168, xs168, xgP12_5, xl176, xs176, xgP12_6, xl184, xs184, xgP12_7, xl192, xs192, xgP12_8, xl200, xs200, xgP12_11, xl209, xs209, xgP12_12, xl218, xs218, xgP12_13, xl226, xs226, xgP12_14, xl232, xs232, xgP12_15, xl241, xs241, xgP12_16, xl248, xs248, xgP12_17, xl256, xs256, xgP12_18, xl264, xs264, xgP12_19, xl274, xs274, xgP12_20, xl280, xs280, xgP12_22, xl288, xs288, xgP12_25, xl296, xs296, xgP12_26, xl305, xs305, xgP12_27, xl312, xs312, xgP12_28, xl321, xs321, xgP12_29, xl328, xs328, xgP12_31, xl336, xs336, xgP12_33, xl344, xs344, xgP12_46, xl352, xs352, xgP12_47, xl360, xs360, xgP2_0, xpL2_0, xgP2_1, xpL2_1, xgP2_2, xpL2_2, xgI2, xwZ2, xpR2, xmo, xpL_5, xpL_33, xpL_34, xpL_35, xpL_36, xpL_37, i3m2, i3m4, i3m5, i3m6, i3m7, i3m12, i3m60, i3m72, i3m1600, i3r6, i3p1, i3p2, i3p3, i3p4, i3p5, i3p6, i3p7, i3p8, i3p9, i3p20, i3_add, i3_mul, i3_toNat, inA_i3, i3_lt, i3_le, i3_eq, e1, e2, true_and, g1, g2]
  have hn : ∀ a c, a < v.1.length → c < v.1.length → (q_oN (v.1.getD a q_o0) < q_oN (v.1.getD c q_o0) ↔ a < c) := by
    intro a c ha hc
    have hp := List.pairwise_iff_getElem.mp hI
    simp only [List.getD_eq_getElem?_getD, List.getElem?_eq_getElem ha, List.getElem?_eq_getElem hc, Option.getD_some]
    constructor
    · intro z
      apply Classical.byContradiction
      intro q
      rcases Nat.lt_or_eq_of_le (Nat.le_of_not_lt q) with q | q
      · have := hp c a hc ha q; omega
      · subst q; omega
    · exact fun z => hp a c ha hc z
  have hjk := hn j k hj hk
  generalize v.1.getD j q_o0 = x at *
  generalize v.1.getD k q_o0 = y at *
  have hf : ∀ c : Prop, ∀ [Decidable c], ∀ (B : Bool), (B = true ↔ ¬ c) → (if c then ((0 : Int32) = 0 ∨ (0 : Int32) = 1) ∧ (0 : Int32) = (if B = true then 1 else 0) ∧ μ = μ else ((1 : Int32) = 0 ∨ (1 : Int32) = 1) ∧ (1 : Int32) = (if B = true then 1 else 0) ∧ μ = μ) := by
    intro c _ B h
    by_cases hc : c
    · have : ¬ B = true := fun z => (h.mp z) hc
      rw [if_pos hc, if_neg this]; simp
    · rw [if_neg hc, if_pos (h.mpr hc)]; simp
  have hne : oP y ≠ oP x → (oP y).toInt ≠ (oP x).toInt := fun z q => z (Int32.toInt_inj.mp q)
  by_cases hp : oP y = oP x
  · have h := hf (k ≤ j) (bef s x y) (by rw [bef_iff]; simp only [hp, true_and, ne_eq, not_true_eq_false, false_and, or_false]; rw [hjk]; omega)
    simp only [hp, if_true]; simpa using h
  · have hp' : ¬ oP x = oP y := fun z => hp z.symm
    have := hne hp
    by_cases hs : s = 0
    · have h := hf (oP y ≤ oP x) (bef s x y) (by rw [bef_iff, Int32.le_iff_toInt_le]; simp only [hs, hp', ne_eq, not_false_eq_true, true_and, false_and, false_or, not_true_eq_false, or_false]; omega)
      simp only [hp, hs, if_true, if_false] at h ⊢; simpa using h
    · have h := hf (oP x ≤ oP y) (bef s x y) (by rw [bef_iff, Int32.le_iff_toInt_le]; simp only [hs, hp', ne_eq, not_false_eq_true, true_and, false_and, false_or]; omega)
      simp only [hp, hs, if_false] at h ⊢; simpa using h

theorem getD_o {l : List Od} {k : Nat} (h : k < l.length) : l.getD k q_o0 = l[k] := by
  rw [List.getD_eq_getElem?_getD, List.getElem?_eq_getElem h]; rfl
theorem side_bef {os : List Od} {t s : Int32} (h : Inc os) {p q : Nat} (hp : p < (q_side os t s).length) (hq : q < (q_side os t s).length) : bef s (q_side os t s)[p] (q_side os t s)[q] = true ↔ p < q := by
  have hs := List.pairwise_iff_getElem.mp (side_str (t := t) (s := s) h)
  constructor
  · intro z
    apply Classical.byContradiction
    intro hn
    rcases Nat.lt_or_eq_of_le (Nat.le_of_not_lt hn) with w | w
    · exact bef_asym z (hs q p hq hp w)
    · subst w; exact bef_irr z
  · exact fun z => hs p q hp hq z
def cand (os : List Od) (t s : Int32) (n a : Nat) : Prop := oB (os.getD a q_o0) = s ∧ oT (os.getD a q_o0) = t ∧ (n = 0 ∨ bef s ((q_side os t s).getD (n - 1) q_o0) (os.getD a q_o0) = true)
def q_bst (os : List Od) (t s : Int32) (n k : Nat) (z : Int32) : Prop := (z = -1 ∧ ∀ a, a < k → ¬ cand os t s n a) ∨ (∃ j, j < k ∧ z = q_i3 j ∧ cand os t s n j ∧ ∀ a, a < k → cand os t s n a → a = j ∨ bef s (os.getD j q_o0) (os.getD a q_o0) = true)
theorem bst_end {os : List Od} {t s z : Int32} {n : Nat} (h : Inc os) (hn : n ≤ (q_side os t s).length) (hb : q_bst os t s n os.length z) : (z = -1 ∧ n = (q_side os t s).length) ∨ (n < (q_side os t s).length ∧ ∃ j, j < os.length ∧ z = q_i3 j ∧ os.getD j q_o0 = (q_side os t s).getD n q_o0) := by
  have hc : n < (q_side os t s).length → ∃ a, a < os.length ∧ os.getD a q_o0 = (q_side os t s).getD n q_o0 ∧ cand os t s n a := by
    intro hlt
    have hm := side_mem.mp (List.getElem_mem hlt)
    obtain ⟨a, ha, ea⟩ := List.mem_iff_getElem.mp hm.1
    have e : os.getD a q_o0 = (q_side os t s).getD n q_o0 := by rw [getD_o ha, getD_o hlt, ea]
    refine ⟨a, ha, e, ?_⟩
    unfold cand
    rw [e, getD_o hlt]
    refine ⟨hm.2.2, hm.2.1, ?_⟩
    by_cases h0 : n = 0
    · exact Or.inl h0
    · right; rw [getD_o (by omega)]; exact (side_bef h _ _).mpr (by omega)
  rcases hb with ⟨h1, h2⟩ | ⟨j, hj, h1, h2, h3⟩
  · left
    refine ⟨h1, ?_⟩
    apply Classical.byContradiction
    intro hne
    obtain ⟨a, ha, _, hca⟩ := hc (by omega)
    exact h2 a ha hca
  · right
    obtain ⟨c1, c2, c3⟩ := h2
    have hm : os.getD j q_o0 ∈ q_side os t s := side_mem.mpr ⟨by rw [getD_o hj]; exact List.getElem_mem _, c2, c1⟩
    obtain ⟨p, hp, ep⟩ := List.mem_iff_getElem.mp hm
    have hpn : n ≤ p := by
      rcases c3 with c3 | c3
      · omega
      · by_cases h0 : n = 0
        · omega
        · rw [← ep, getD_o (by omega)] at c3
          have := (side_bef h _ _).mp c3; omega
    refine ⟨by omega, j, hj, h1, ?_⟩
    obtain ⟨a, ha, ea, hca⟩ := hc (by omega)
    rcases h3 a ha hca with q | q
    · rw [← q]; exact ea
    · rw [ea, ← ep, getD_o (by omega)] at q
      have := (side_bef h _ _).mp q; omega
theorem cand_dec {os : List Od} {t s : Int32} {n k : Nat} {z : Int32} (hb : q_bst os t s n k z) : True := trivial
theorem r_ranked_in {μ : Mem} {b n i : Nat} {v : q_VO} {s t x4 : Int32} {K : Nat → Int32 → Int32 → Int32 → Int32 → Int32 → M Int32} {Q : Int32 → Mem → Prop} (hK : K0 μ b) (hO : RO μ b v) (hI : Inc v.1) (hl : v.1.length ≤ 120) (hs : s = 0 ∨ s = 1) (hn : n ≤ (q_side v.1 t s).length)
    (h4 : (n = 0 ∧ x4 = -1) ∨ (0 < n ∧ ∃ j, j < v.1.length ∧ x4 = q_i3 j ∧ v.1.getD j q_o0 = (q_side v.1 t s).getD (n - 1) q_o0))
    (hret : n = (q_side v.1 t s).length → Q (-1) μ) (hcont : n < (q_side v.1 t s).length → ∀ j, j < v.1.length → v.1.getD j q_o0 = (q_side v.1 t s).getD n q_o0 → q_wp (K (b + 38) s t (q_i3 i) (q_i3 j) (q_i3 (n + 1))) μ Q) :
    q_wp (F_X12_ranked_L18 K FU (b + 38) s t (q_i3 i) x4 (q_i3 n) (-1) 0) μ Q := by
  refine wp_loop (σ := Int32) (fun f k z => F_X12_ranked_L18 K f (b + 38) s t (q_i3 i) x4 (q_i3 n) z (q_i3 k)) v.1.length (fun k z ν => ν = μ ∧ q_bst v.1 t s n k z) Q ?_ ?_ FU 0 (-1) μ (by omega) (by show _ < 100000; omega) ⟨rfl, Or.inl ⟨rfl, fun a ha => by omega⟩⟩
  · rintro f z ν ⟨rfl, hb⟩
    show q_wp (F_X12_ranked_L18 K (f + 1) (b + 38) s t (q_i3 i) x4 (q_i3 n) z (q_i3 v.1.length)) ν Q
    unfold F_X12_ranked_L18
    simp (maxSteps := 2000000) (disch := first | assumption | omega | (simp only [K0_sI, K0_sL, K0_tI, K0_tL, K0_nE]; assumption)) only [wp_bn, xgI11, xgL11, xwI11, xpR11, xgI4, xgL4, xwI4, xpR4, xgI7, xgL7, xwI7, xpR7, xgI12, xgL12, xwI12, xpR12, xgP11_0, xgP11_1, xgP11_2, xgP11_3, xgP11_4, xgP11_5, xgP11_6, xgP11_7, xgP4_0, xl115, xs115, xgP4_9, xl120, xs120, xgP7_0, xgP7_1, xl136, xs136, xgP7_2, xl144, xs144, xgP12_0, xl160, xs160, xgP12_4, xl168, xs168, xgP12_5, xl176, xs176, xgP12_6, xl184, xs184, xgP12_7, xl192, xs192, xgP12_8, xl200, xs200, xgP12_11, xl209, xs209, xgP12_12, xl218, xs218, xgP12_13, xl226, xs226, xgP12_14, xl232, xs232, xgP12_15, xl241, xs241, xgP12_16, xl248, xs248, xgP12_17, xl256, xs256, xgP12_18, xl264, xs264, xgP12_19, xl274, xs274, xgP12_20, xl280, xs280, xgP12_22, xl288, xs288, xgP12_25, xl296, xs296, xgP12_26, xl305, xs305, xgP12_27, xl312, xs312, xgP12_28, xl321, xs321, xgP12_29, xl328, xs328, xgP12_31, xl336, xs336, xgP12_33, xl344, xs344, xgP12_46, xl352, xs352, xgP12_47, xl360, xs360, xgP2_0, xpL2_0, xgP2_1, xpL2_1, xgP2_2, xpL2_2, xgI2, xwZ2, xpR2, xmo, xpL_5, xpL_33, xpL_34, xpL_35, xpL_36, xpL_37, Nat.reduceMul, Nat.reduceAdd, hO.1, wp_ite, i3m2, i3m4, i3m5, i3m6, i3m7, i3m12, i3m60, i3m72, i3m1600, i3r6, i3p1, i3p2, i3p3, i3p4, i3p5, i3p6, i3p7, i3p8, i3p9, i3p20, i3_add, i3_mul, i3_toNat, inA_i3, i3_lt, i3_le, i3_eq, Nat.le_refl, if_true]
    rcases bst_end hI hn hb with ⟨e, h⟩ | ⟨h, j, hj, e, ej⟩
    · rw [e, if_neg (fun z => z rfl), wp_rt]; exact hret h
    · have : ¬ q_i3 j = -1 := fun z => by
        have h1 := i3_toInt (n := j) (by omega); rw [z] at h1
        have : (-1 : Int32).toInt = -1 := rfl
        omega
      rw [e, if_pos this]; exact hcont h j hj ej
  · rintro f k z ν hk ⟨rfl, hb⟩ ih
    show q_wp (F_X12_ranked_L18 K (f + 1) (b + 38) s t (q_i3 i) x4 (q_i3 n) z (q_i3 k)) ν Q
    unfold F_X12_ranked_L18
    obtain ⟨g0, g1, g2, g3, g4⟩ := hO.2 k hk
    have hle : ¬ v.1.length ≤ k := by omega
    have b1 : 5 * k + 1 < 600 := by omega
    have b2 : 5 * k + 2 < 600 := by omega
    simp (maxSteps := 2000000) (disch := first | assumption | omega | (simp only [K0_sI, K0_sL, K0_tI, K0_tL, K0_nE]; assumption)) only [wp_bn, xgI11, xgL11, xwI11, xpR11, xgI4, xgL4, xwI4, xpR4, xgI7, xgL7, xwI7, xpR7, xgI12, xgL12, xwI12, xpR12, xgP11_0, xgP11_1, xgP11_2, xgP11_3, xgP11_4, xgP11_5, xgP11_6, xgP11_7, xgP4_0, xl115, xs115, xgP4_9, xl120, xs120, xgP7_0, xgP7_1, xl136, xs136, xgP7_2, xl144, xs144, xgP12_0, xl160, xs160, xgP12_4, xl168, xs168, xgP12_5, xl176, xs176, xgP12_6, xl184, xs184, xgP12_7, xl192, xs192, xgP12_8, xl200, xs200, xgP12_11, xl209, xs209, xgP12_12, xl218, xs218, xgP12_13, xl226, xs226, xgP12_14, xl232, xs232, xgP12_15, xl241, xs241, xgP12_16, xl248, xs248, xgP12_17, xl256, xs256, xgP12_18, xl264, xs264, xgP12_19, xl274, xs274, xgP12_20, xl280, xs280, xgP12_22, xl288, xs288, xgP12_25, xl296, xs296, xgP12_26, xl305, xs305, xgP12_27, xl312, xs312, xgP12_28, xl321, xs321, xgP12_29, xl328, xs328, xgP12_31, xl336, xs336, xgP12_33, xl344, xs344, xgP12_46, xl352, xs352, xgP12_47, xl360, xs360, xgP2_0, xpL2_0, xgP2_1, xpL2_1, xgP2_2, xpL2_2, xgI2, xwZ2, xpR2, xmo, xpL_5, xpL_33, xpL_34, xpL_35, xpL_36, xpL_37, Nat.reduceMul, Nat.reduceAdd, hO.1, wp_ite, i3m2, i3m4, i3m5, i3m6, i3m7, i3m12, i3m60, i3m72, i3m1600, i3r6, i3p1, i3p2, i3p3, i3p4, i3p5, i3p6, i3p7, i3p8, i3p9, i3p20, i3_add, i3_mul, i3_toNat, inA_i3, i3_lt, i3_le, i3_eq, hle, if_false, b1, true_and, g1]
    have e0 : (if s = 0 then q_wp (F_X12_ranked_L47 K (F_X12_ranked_L18 K f) (b + 38) s t (q_i3 i) x4 (q_i3 n) z (q_i3 k) 0 (oB (v.1.getD k q_o0))) ν Q else q_wp (F_X12_ranked_L47 K (F_X12_ranked_L18 K f) (b + 38) s t (q_i3 i) x4 (q_i3 n) z (q_i3 k) 1 (oB (v.1.getD k q_o0))) ν Q) = q_wp (F_X12_ranked_L47 K (F_X12_ranked_L18 K f) (b + 38) s t (q_i3 i) x4 (q_i3 n) z (q_i3 k) s (oB (v.1.getD k q_o0))) ν Q := by
      rcases hs with e | e
      · rw [e, if_pos rfl]
      · rw [e, if_neg (by decide)]
    rw [e0]
    unfold F_X12_ranked_L47
    have skip : ¬ cand v.1 t s n k → q_wp (F_X12_ranked_L111 K (F_X12_ranked_L18 K f) (b + 38) s t (q_i3 i) x4 (q_i3 n) z (q_i3 k)) ν Q := by
      intro hc
      unfold F_X12_ranked_L111
      rw [i3_1]
      refine ih z ν ⟨rfl, ?_⟩
      rcases hb with ⟨h1, h2⟩ | ⟨j, hj, h1, h2, h3⟩
      · exact Or.inl ⟨h1, fun a ha => by
          by_cases q : a = k
          · rw [q]; exact hc
          · exact h2 a (by omega)⟩
      · exact Or.inr ⟨j, by omega, h1, h2, fun a ha hca => by
          by_cases q : a = k
          · rw [q] at hca; exact absurd hca hc
          · exact h3 a (by omega) hca⟩
    have take : cand v.1 t s n k → q_wp (F_X12_ranked_L89 K (F_X12_ranked_L18 K f) (b + 38) s t (q_i3 i) x4 (q_i3 n) z (q_i3 k)) ν Q := by
      intro hc
      unfold F_X12_ranked_L89 F_X12_ranked_L107 F_X12_ranked_L111
      rw [wp_ite]
      rcases hb with ⟨h1, h2⟩ | ⟨j, hj, h1, h2, h3⟩
      · rw [if_pos h1, i3_1]
        refine ih _ ν ⟨rfl, Or.inr ⟨k, by omega, rfl, hc, fun a ha hca => ?_⟩⟩
        by_cases q : a = k
        · exact Or.inl q
        · exact absurd hca (h2 a (by omega))
      · have hne : ¬ z = -1 := fun q => by
          rw [h1] at q
          have h1 := i3_toInt (n := j) (by omega); rw [q] at h1
          have : (-1 : Int32).toInt = -1 := rfl
          omega
        rw [if_neg hne, wp_bn, xpR12 hK, wp_bn, h1, wp_eq (RO.bh hK hO hI hl (by omega) hk), wp_ite]
        by_cases hbk : bef s (v.1.getD k q_o0) (v.1.getD j q_o0) = true
        · rw [if_pos hbk, if_neg (by decide), i3_1]
          refine ih _ ν ⟨rfl, Or.inr ⟨k, by omega, rfl, hc, fun a ha hca => ?_⟩⟩
          by_cases q : a = k
          · exact Or.inl q
          · rcases h3 a (by omega) hca with w | w
            · rw [w]; exact Or.inr hbk
            · exact Or.inr (bef_trans hbk w)
        · rw [if_neg hbk, if_pos rfl, i3_1]
          refine ih _ ν ⟨rfl, Or.inr ⟨j, by omega, rfl, h2, fun a ha hca => ?_⟩⟩
          by_cases q : a = k
          · subst q
            by_cases w : a = j
            · exact Or.inl w
            · right
              refine bef_total (fun y => ?_) hbk
              have hp := List.pairwise_iff_getElem.mp hI
              rw [getD_o hk, getD_o (show j < v.1.length by omega)] at y
              rcases Nat.lt_trichotomy a j with q | q | q
              · have := hp a j hk (by omega) q; omega
              · exact w q
              · have := hp j a (by omega) hk q; omega
          · exact h3 a (by omega) hca
    rw [wp_ite]
    by_cases hB : oB (v.1.getD k q_o0) = s
    · rw [if_neg (fun z => z hB)]
      simp (maxSteps := 2000000) (disch := first | assumption | omega | (simp only [K0_sI, K0_sL, K0_tI, K0_tL, K0_nE]; assumption)) only [wp_bn, xgI11, xgL11, xwI11, xpR11, xgI4, xgL4, xwI4, xpR4, xgI7, xgL7, xwI7, xpR7, xgI12, xgL12, xwI12, xpR12, xgP11_0, xgP11_1, xgP11_2, xgP11_3, xgP11_4, xgP11_5, xgP11_6, xgP11_7, xgP4_0, xl115, xs115, xgP4_9, xl120, xs120, xgP7_0, xgP7_1, xl136, xs136, xgP7_2, xl144, xs144, xgP12_0, xl160, xs160, xgP12_4, xl168, xs168, xgP12_5, xl176, xs176, xgP12_6, xl184, xs184, xgP12_7, xl192, xs192, xgP12_8, xl200, xs200, xgP12_11, xl209, xs209, xgP12_12, xl218, xs218, xgP12_13, xl226, xs226, xgP12_14, xl232, xs232, xgP12_15, xl241, xs241, xgP12_16, xl248, xs248, xgP12_17, xl256, xs256, xgP12_18, xl264, xs264, xgP12_19, xl274, xs274, xgP12_20, xl280, xs280, xgP12_22, xl288, xs288, xgP12_25, xl296, xs296, xgP12_26, xl305, xs305, xgP12_27, xl312, xs312, xgP12_28, xl321, xs321, xgP12_29, xl328, xs328, xgP12_31, xl336, xs336, xgP12_33, xl344, xs344, xgP12_46, xl352, xs352, xgP12_47, xl360, xs360, xgP2_0, xpL2_0, xgP2_1, xpL2_1, xgP2_2, xpL2_2, xgI2, xwZ2, xpR2, xmo, xpL_5, xpL_33, xpL_34, xpL_35, xpL_36, xpL_37, Nat.reduceMul, Nat.reduceAdd, wp_ite, i3m2, i3m4, i3m5, i3m6, i3m7, i3m12, i3m60, i3m72, i3m1600, i3r6, i3p1, i3p2, i3p3, i3p4, i3p5, i3p6, i3p7, i3p8, i3p9, i3p20, i3_add, i3_mul, i3_toNat, inA_i3, i3_lt, i3_le, i3_eq, b2, true_and, g2]
      by_cases hT : oT (v.1.getD k q_o0) = t
      · rw [if_pos hT]
        rcases h4 with ⟨h0, e4⟩ | ⟨h0, j, hj, e4, ej⟩
        · rw [if_pos e4]; exact take ⟨hB, hT, Or.inl h0⟩
        · have hne : ¬ x4 = -1 := fun q => by
            rw [e4] at q
            have h1 := i3_toInt (n := j) (by omega); rw [q] at h1
            have : (-1 : Int32).toInt = -1 := rfl
            omega
          rw [if_neg hne, e4, wp_eq (RO.bh hK hO hI hl hk hj), ej, ← e4]
          by_cases hbb : bef s ((q_side v.1 t s).getD (n - 1) q_o0) (v.1.getD k q_o0) = true
          · rw [if_pos hbb, if_pos (by decide)]; exact take ⟨hB, hT, Or.inr hbb⟩
          · rw [if_neg hbb, if_neg (by decide)]
            exact skip fun z => by
              rcases z.2.2 with q | q
              · omega
              · exact hbb q
      · rw [if_neg hT]; exact skip fun z => hT z.2.1
    · rw [if_pos hB]; exact skip fun z => hB z.1
theorem r_ranked {μ : Mem} {b i : Nat} {v : q_VO} {s t : Int32} {Q : Int32 → Mem → Prop} (hK : K0 μ b) (hO : RO μ b v) (hI : Inc v.1) (hl : v.1.length ≤ 120) (hs : s = 0 ∨ s = 1) (hi : i < 1000)
    (hret : (q_side v.1 t s).length ≤ i → Q (-1) μ) (hcont : i < (q_side v.1 t s).length → ∀ j, j < v.1.length → v.1.getD j q_o0 = (q_side v.1 t s).getD i q_o0 → Q (q_i3 j) μ) : q_wp (F_X12_ranked (b + 38) s t (q_i3 i)) μ Q := by
  unfold F_X12_ranked
  refine wp_loop (σ := Int32) (fun f n z => F_X12_ranked_L6 f (b + 38) s t (q_i3 i) z (q_i3 n)) (i + 1) (fun n z ν => ν = μ ∧ n ≤ (q_side v.1 t s).length ∧ ((n = 0 ∧ z = -1) ∨ (0 < n ∧ ∃ j, j < v.1.length ∧ z = q_i3 j ∧ v.1.getD j q_o0 = (q_side v.1 t s).getD (n - 1) q_o0))) Q ?_ ?_ FU 0 (-1) μ (by omega) (by show _ < 100000; omega) ⟨rfl, by omega, Or.inl ⟨rfl, rfl⟩⟩
  · rintro f z ν ⟨rfl, h1, h2⟩
    unfold F_X12_ranked_L6
    rw [wp_ite, if_pos ((i3_lt (by omega) (by omega)).mpr (by omega)), wp_rt]
    rcases h2 with ⟨h0, _⟩ | ⟨h0, j, hj, e, ej⟩
    · omega
    · rw [e]; exact hcont (by omega) j hj ej
  · rintro f n z ν hn ⟨rfl, h1, h2⟩ ih
    show q_wp (F_X12_ranked_L6 (f + 1) (b + 38) s t (q_i3 i) z (q_i3 n)) ν Q
    unfold F_X12_ranked_L6
    rw [wp_ite, if_neg (fun z => by have := (i3_lt (by omega) (by omega)).mp z; omega)]
    refine r_ranked_in hK hO hI hl hs h1 h2 (fun h => hret (by omega)) fun h j hj ej => ?_
    exact ih _ ν ⟨rfl, by omega, Or.inr ⟨by omega, j, hj, rfl, ej⟩⟩

theorem odAt_P {μ : Mem} {s t : Int32} {r : Nat} : oP (odAt μ s t r) = mI μ 577 r ∧ oM (odAt μ s t r) = mI μ 576 r ∧ oL (odAt μ s t r) = mI μ 579 r ∧ q_oN (odAt μ s t r) = (mI μ 578 r).toNatClampNeg ∧ oB (odAt μ s t r) = s ∧ oT (odAt μ s t r) = t := ⟨rfl, rfl, rfl, rfl, rfl, rfl⟩
theorem co_at {μ : Mem} {b i k : Nat} {v : q_VO} {s : Int32} (h : q_CO μ b v) (hi : i < 6) (hs : s = 0 ∨ s = 1) (hk : k < (q_side v.1 (q_i3 i) s).length) : odAt μ s (q_i3 i) ((q_lst μ (b + sdO i s)).getD k 0) = (q_side v.1 (q_i3 i) s).getD k q_o0 ∧ mK μ ((q_lst μ (b + sdO i s)).getD k 0) = 10 ∧ mI μ 578 ((q_lst μ (b + sdO i s)).getD k 0) = q_i3 (q_oN ((q_side v.1 (q_i3 i) s).getD k q_o0)) := by
  have hl := co_len h hi hs
  have e : odAt μ s (q_i3 i) ((q_lst μ (b + sdO i s)).getD k 0) = (q_side v.1 (q_i3 i) s).getD k q_o0 := by
    rw [← h.side hi hs]; unfold sd
    simp only [List.getD_eq_getElem?_getD, List.getElem?_map]
    rw [List.getElem?_eq_getElem (by omega)]; rfl
  obtain ⟨q1, n, q2, q3⟩ := (h.2.2.2.2 i hi s hs).1 _ (getD_mem (show k < (q_lst μ (b + sdO i s)).length by omega))
  refine ⟨e, q1, ?_⟩
  rw [← e, odAt_P.2.2.2.1, q2, i3_toNat (by omega)]
theorem side_le (os : List Od) (t s : Int32) : (q_side os t s).length ≤ os.length := by
  rw [side_len]; exact List.length_filter_le _ _
def oFld (x : Od) (q : Int32) : Int32 := if q = 0 then oM x else if q = 1 then oP x else oL x
def fWait (s : q_St) (w m i q : Int32) : Int32 := if q_inR m 6 ∧ q_inR i (q_side (sO s).1 m w).length ∧ q_inR q 3 then oFld ((q_side (sO s).1 m w).getD i.toNatClampNeg q_o0) q else -1
theorem c_side {μ : Mem} {b m : Nat} {w : Int32} (hK : K0 μ b) (hm : m < 6) (hw : w = 0 ∨ w = 1) : F_X2_side (b + (9 + 4 * m)) w μ = some (some (b + sdO m w), μ) := by
  apply eq_wp
  unfold F_X2_side
  rcases hw with rfl | rfl
  · rw [sdO0]; simp (maxSteps := 2000000) (disch := first | assumption | omega | (simp only [K0_sI, K0_sL, K0_tI, K0_tL, K0_nE]; assumption)) only [wp_ite, if_true, wp_bn, xgI11, xgL11, xwI11, xpR11, xgI4, xgL4, xwI4, xpR4, xgI7, xgL7, xwI7, xpR7, xgI12, xgL12, xwI12, xpR12, xgP11_0, xgP11_1, xgP11_2, xgP11_3, xgP11_4, xgP11_5, xgP11_6, xgP11_7, xgP4_0, xl115, xs115, xgP4_9, xl120, xs120, xgP7_0, xgP7_1, xl136, xs136, xgP7_2, xl144, xs144, xgP12_0, xl160, xs160, xgP12_4, xl168, xs168, xgP12_5, xl176, xs176, xgP12_6, xl184, xs184, xgP12_7, xl192, xs192, xgP12_8, xl200, xs200, xgP12_11, xl209, xs209, xgP12_12, xl218, xs218, xgP12_13, xl226, xs226, xgP12_14, xl232, xs232, xgP12_15, xl241, xs241, xgP12_16, xl248, xs248, xgP12_17, xl256, xs256, xgP12_18, xl264, xs264, xgP12_19, xl274, xs274, xgP12_20, xl280, xs280, xgP12_22, xl288, xs288, xgP12_25, xl296, xs296, xgP12_26, xl305, xs305, xgP12_27, xl312, xs312, xgP12_28, xl321, xs321, xgP12_29, xl328, xs328, xgP12_31, xl336, xs336, xgP12_33, xl344, xs344, xgP12_46, xl352, xs352, xgP12_47, xl360, xs360, xgP2_0, xpL2_0, xgP2_1, xpL2_1, xgP2_2, xpL2_2, xgI2, xwZ2, xpR2, xmo, xpL_5, xpL_33, xpL_34, xpL_35, xpL_36, xpL_37, wp_rt]; exact ⟨trivial, trivial⟩
  · rw [sdO1]; simp (decide := true) only [wp_ite, if_false]; simp (maxSteps := 2000000) (disch := first | assumption | omega | (simp only [K0_sI, K0_sL, K0_tI, K0_tL, K0_nE]; assumption)) only [wp_bn, xgI11, xgL11, xwI11, xpR11, xgI4, xgL4, xwI4, xpR4, xgI7, xgL7, xwI7, xpR7, xgI12, xgL12, xwI12, xpR12, xgP11_0, xgP11_1, xgP11_2, xgP11_3, xgP11_4, xgP11_5, xgP11_6, xgP11_7, xgP4_0, xl115, xs115, xgP4_9, xl120, xs120, xgP7_0, xgP7_1, xl136, xs136, xgP7_2, xl144, xs144, xgP12_0, xl160, xs160, xgP12_4, xl168, xs168, xgP12_5, xl176, xs176, xgP12_6, xl184, xs184, xgP12_7, xl192, xs192, xgP12_8, xl200, xs200, xgP12_11, xl209, xs209, xgP12_12, xl218, xs218, xgP12_13, xl226, xs226, xgP12_14, xl232, xs232, xgP12_15, xl241, xs241, xgP12_16, xl248, xs248, xgP12_17, xl256, xs256, xgP12_18, xl264, xs264, xgP12_19, xl274, xs274, xgP12_20, xl280, xs280, xgP12_22, xl288, xs288, xgP12_25, xl296, xs296, xgP12_26, xl305, xs305, xgP12_27, xl312, xs312, xgP12_28, xl321, xs321, xgP12_29, xl328, xs328, xgP12_31, xl336, xs336, xgP12_33, xl344, xs344, xgP12_46, xl352, xs352, xgP12_47, xl360, xs360, xgP2_0, xpL2_0, xgP2_1, xpL2_1, xgP2_2, xpL2_2, xgI2, xwZ2, xpR2, xmo, xpL_5, xpL_33, xpL_34, xpL_35, xpL_36, xpL_37, wp_rt]; exact ⟨trivial, trivial⟩
theorem c_waiting {μ : Mem} {b c : Nat} {s : q_St} (hK : K0 μ b) (hW : WF μ) (hA : q_AC μ b s) (w p i q : Int32) (hw : w = 0 ∨ w = 1) : q_wp (F_X11_waiting b w p i q) μ (fun r ν => r = fWait s w p i q ∧ cOK μ b s 0 0 ν) := by
  obtain ⟨hM, hL, hO, hT, hD, hR, hN, hU, hP⟩ := id hA
  have hok := cOK.rf (x := 0) (y := 0) hK hW hA
  obtain ⟨R, eR⟩ : ∃ R, R = fWait s w p i q := ⟨_, rfl⟩
  rw [← eR]
  unfold fWait at eR
  unfold F_X11_waiting
  rw [wp_bn, wp_eq c_isMonth, wp_ite]
  by_cases h : q_inR p 6
  · obtain ⟨m, hm, rfl⟩ := inR_i3 h
    rw [if_pos h, if_pos (by decide)]
    have k12 := hK.lo (sdO_lo hm w)
    have hlen := co_len hO hm hw
    have hb := (hW.ls k12).2.1
    simp (maxSteps := 2000000) (disch := first | assumption | omega | (simp only [K0_sI, K0_sL, K0_tI, K0_tL, K0_nE]; assumption)) only [wp_bn, xgI11, xgL11, xwI11, xpR11, xgI4, xgL4, xwI4, xpR4, xgI7, xgL7, xwI7, xpR7, xgI12, xgL12, xwI12, xpR12, xgP11_0, xgP11_1, xgP11_2, xgP11_3, xgP11_4, xgP11_5, xgP11_6, xgP11_7, xgP4_0, xl115, xs115, xgP4_9, xl120, xs120, xgP7_0, xgP7_1, xl136, xs136, xgP7_2, xl144, xs144, xgP12_0, xl160, xs160, xgP12_4, xl168, xs168, xgP12_5, xl176, xs176, xgP12_6, xl184, xs184, xgP12_7, xl192, xs192, xgP12_8, xl200, xs200, xgP12_11, xl209, xs209, xgP12_12, xl218, xs218, xgP12_13, xl226, xs226, xgP12_14, xl232, xs232, xgP12_15, xl241, xs241, xgP12_16, xl248, xs248, xgP12_17, xl256, xs256, xgP12_18, xl264, xs264, xgP12_19, xl274, xs274, xgP12_20, xl280, xs280, xgP12_22, xl288, xs288, xgP12_25, xl296, xs296, xgP12_26, xl305, xs305, xgP12_27, xl312, xs312, xgP12_28, xl321, xs321, xgP12_29, xl328, xs328, xgP12_31, xl336, xs336, xgP12_33, xl344, xs344, xgP12_46, xl352, xs352, xgP12_47, xl360, xs360, xgP2_0, xpL2_0, xgP2_1, xpL2_1, xgP2_2, xpL2_2, xgI2, xwZ2, xpR2, xmo, xpL_5, xpL_33, xpL_34, xpL_35, xpL_36, xpL_37, wp_eq (c_side hK hm hw), wp_ite]
    by_cases h2 : q_inR i (q_side (sO s).1 (q_i3 m) w).length
    · obtain ⟨k, hk, rfl⟩ := inR_i3 h2
      obtain ⟨a1, a3, a4⟩ := co_at hO hm hw hk
      have hlt : k < (q_lst μ (b + sdO m w)).length := by omega
      rw [if_neg (i3_nn (by omega))]
      simp (maxSteps := 2000000) (disch := first | assumption | omega | (simp only [K0_sI, K0_sL, K0_tI, K0_tL, K0_nE]; assumption)) only [wp_pRc, k12, true_and, wp_eq (ls_size hW k12), wp_ite, i3m2, i3m4, i3m5, i3m6, i3m7, i3m12, i3m60, i3m72, i3m1600, i3r6, i3p1, i3p2, i3p3, i3p4, i3p5, i3p6, i3p7, i3p8, i3p9, i3p20, i3_add, i3_mul, i3_toNat, inA_i3, i3_lt, i3_le, i3_eq, hlt, if_true, wp_eq (ls_get hW k12 hlt), wp_cst, a3]
      rw [i3_toNat (by omega)] at eR
      by_cases h3 : q_inR q 3
      · rw [if_pos ⟨h, h2, h3⟩, ← a1] at eR
        unfold oFld at eR
        obtain ⟨j, hj, rfl⟩ := inR_i3 h3
        rcases (show j = 0 ∨ j = 1 ∨ j = 2 by omega) with rfl | rfl | rfl
        · simp (decide := true) only [if_true] at eR
          simp (decide := true) only [swF_cons, swF_nil, wp_bn, wp_rt, wp_ite, wp_gI, true_and, if_true, if_false, a3]; exact ⟨by rw [eR]; rfl, hok⟩
        · simp (decide := true) only [if_true, if_false] at eR
          simp (decide := true) only [swF_cons, swF_nil, wp_bn, wp_rt, wp_ite, wp_gI, true_and, if_true, if_false, a3]; exact ⟨by rw [eR]; rfl, hok⟩
        · simp (decide := true) only [if_true, if_false] at eR
          simp (decide := true) only [swF_cons, swF_nil, wp_bn, wp_rt, wp_ite, wp_gI, true_and, if_true, if_false, a3]; exact ⟨by rw [eR]; rfl, hok⟩
      · rw [if_neg (fun z => h3 z.2.2)] at eR
        have n0 : ¬ q = 0 := ne_lit h3 0 (by omega) (by omega)
        have n1 : ¬ q = 1 := ne_lit h3 1 (by omega) (by omega)
        have n2 : ¬ q = 2 := ne_lit h3 2 (by omega) (by omega)
        simp only [swF_cons, swF_nil, wp_bn, wp_rt, wp_ite, wp_gI, true_and, if_true, if_false, n0, n1, n2]; exact ⟨eR.symm, hok⟩
    · rw [if_neg (fun z => h2 z.2.1)] at eR
      rw [inR_lt (by omega)] at h2
      by_cases h3 : i < 0
      · rw [if_pos h3, wp_rt]; exact ⟨eR.symm, hok⟩
      · rw [if_neg h3]
        have h4 : ¬ i < q_i3 (q_lst μ (b + sdO m w)).length := by rw [hlen]; exact fun z => h2 ⟨h3, z⟩
        simp (maxSteps := 2000000) (disch := first | assumption | omega | (simp only [K0_sI, K0_sL, K0_tI, K0_tL, K0_nE]; assumption)) only [wp_pRc, k12, true_and, wp_eq (ls_size hW k12), wp_ite, h4, if_false, wp_rt]
        exact ⟨eR.symm, hok⟩
  · rw [if_neg (fun z => h z.1)] at eR
    rw [if_neg h, if_neg (by decide), wp_rt]; exact ⟨eR.symm, hok⟩
theorem r_waiting {μ : Mem} {b c : Nat} {s : q_St} (hK : K0 μ b) (hA : q_AR μ b s) (hI : Iv s c) (hinc : Inc (sO s).1) (w p i q : Int32) (hw : w = 0 ∨ w = 1) : q_wp (F_X12_waiting (b + 38) w p i q) μ (fun r ν => r = fWait s w p i q ∧ rOK μ b s 0 ν) := by
  unfold F_X12_waiting
  refine r_start hK hA fun μ hK hA hz => ?_
  obtain ⟨hM, hL, hO, hT, hD, hR, hN, hU, hP⟩ := id hA
  have hok := rOK.rf hA hz
  have hl := hI.2.2.1.1
  obtain ⟨R, eR⟩ : ∃ R, R = fWait s w p i q := ⟨_, rfl⟩
  rw [← eR]
  unfold fWait at eR
  rw [wp_bn, wp_eq r_isMonth, wp_ite]
  by_cases h : q_inR p 6
  · rw [if_pos h, if_neg (by decide), wp_ite]
    have hle := side_le (sO s).1 p w
    by_cases hi0 : i < 0
    · rw [if_neg (fun z => ((inR_lt (by omega)).mp z.2.1).1 hi0)] at eR
      rw [if_pos hi0, wp_rt]; exact ⟨eR.symm, hok⟩
    · rw [if_neg hi0, wp_bn, xgI12 hK, wp_ite, show mI μ (64 * 12 + 21) (b + 38) = q_i3 (sO s).1.length from hO.1]
      by_cases hi1 : q_i3 (sO s).1.length ≤ i
      · have : ¬ q_inR i (q_side (sO s).1 p w).length := by
          rw [Int32.le_iff_toInt_le, i3_toInt (by omega)] at hi1
          unfold q_inR; omega
        rw [if_neg (fun z => this z.2.1)] at eR
        rw [if_pos hi1, wp_rt]; exact ⟨eR.symm, hok⟩
      · rw [if_neg hi1, wp_bn, wp_eq (in_lit (n := 3) rfl), wp_ite]
        by_cases h3 : q_inR q 3
        · rw [if_pos h3, if_pos (by decide), wp_bn, xpR12 hK, wp_bn]
          obtain ⟨k, hk, rfl⟩ : ∃ k, k < (sO s).1.length ∧ i = q_i3 k := inR_i3 (by
            rw [Int32.le_iff_toInt_le, i3_toInt (by omega)] at hi1
            rw [Int32.lt_iff_toInt_lt] at hi0
            have : (0 : Int32).toInt = 0 := rfl
            unfold q_inR; omega)
          refine r_ranked hK hO hinc hl hw (by omega) ?_ ?_
          · intro hle2
            rw [if_neg (fun z => by have := z.2.1; unfold q_inR at this; rw [i3_toInt (by omega)] at this; omega)] at eR
            rw [wp_ite, if_neg (fun z => z rfl), wp_rt]; exact ⟨eR.symm, hok⟩
          · intro hlt j hj ej
            rw [if_pos ⟨h, i3_inR hlt (by omega), h3⟩, i3_toNat (by omega), ← ej] at eR
            have hne : ¬ q_i3 j = -1 := fun z => by
              have h1 := i3_toInt (n := j) (by omega); rw [z] at h1
              have : (-1 : Int32).toInt = -1 := rfl
              omega
            obtain ⟨g0, g1, g2, g3, g4⟩ := hO.2 j hj
            rw [wp_ite, if_pos hne, wp_bn, xgP12_20 hK, wp_ite]
            unfold oFld at eR
            obtain ⟨y, hy, rfl⟩ := inR_i3 h3
            rcases (show y = 0 ∨ y = 1 ∨ y = 2 by omega) with rfl | rfl | rfl
            · simp (decide := true) only [if_true] at eR
              rw [if_neg (by decide), i3m5, show (0 : Int32) = q_i3 0 from rfl, i3_add, wp_bn, xl280 hK, i3_toNat (by omega), wp_rt]
              exact ⟨inA_of (by omega) (by omega), by rw [eR]; exact g0, hok⟩
            · simp (decide := true) only [if_true, if_false] at eR
              rw [if_pos (by decide), i3m5, show (2 : Int32) + q_i3 1 = q_i3 3 from rfl, i3_add, wp_bn, xl280 hK, i3_toNat (by omega), wp_rt]
              exact ⟨inA_of (by omega) (by omega), by rw [eR]; exact g3, hok⟩
            · simp (decide := true) only [if_true, if_false] at eR
              rw [if_pos (by decide), i3m5, show (2 : Int32) + q_i3 2 = q_i3 4 from rfl, i3_add, wp_bn, xl280 hK, i3_toNat (by omega), wp_rt]
              exact ⟨inA_of (by omega) (by omega), by rw [eR]; exact g4, hok⟩
        · rw [if_neg (fun z => h3 z.2.2)] at eR
          rw [if_neg h3, if_neg (by decide), wp_rt]; exact ⟨eR.symm, hok⟩
  · rw [if_neg (fun z => h z.1)] at eR
    rw [if_neg h, if_pos rfl, wp_rt]; exact ⟨eR.symm, hok⟩
theorem r_drop {μ : Mem} {b k : Nat} {v : q_VO} (hK : K0 μ b) (hO : RO μ b v) (hl : v.1.length ≤ 120) (hk : k < v.1.length) : q_wp (F_X12_dropOrder (b + 38) (q_i3 k)) μ (fun _ ν => RO ν b (v.1.eraseIdx k, v.2) ∧ Md [789, 2280] μ ν) := by
  unfold F_X12_dropOrder
  have e1 : q_i3 v.1.length - 1 = q_i3 (v.1.length - 1) := i3_sub (a := v.1.length) (b := 1) (by omega)
  simp (maxSteps := 2000000) (disch := first | assumption | omega | (simp only [K0_sI, K0_sL, K0_tI, K0_tL, K0_nE]; assumption)) only [wp_bn, xgI11, xgL11, xwI11, xpR11, xgI4, xgL4, xwI4, xpR4, xgI7, xgL7, xwI7, xpR7, xgI12, xgL12, xwI12, xpR12, xgP11_0, xgP11_1, xgP11_2, xgP11_3, xgP11_4, xgP11_5, xgP11_6, xgP11_7, xgP4_0, xl115, xs115, xgP4_9, xl120, xs120, xgP7_0, xgP7_1, xl136, xs136, xgP7_2, xl144, xs144, xgP12_0, xl160, xs160, xgP12_4, xl168, xs168, xgP12_5, xl176, xs176, xgP12_6, xl184, xs184, xgP12_7, xl192, xs192, xgP12_8, xl200, xs200, xgP12_11, xl209, xs209, xgP12_12, xl218, xs218, xgP12_13, xl226, xs226, xgP12_14, xl232, xs232, xgP12_15, xl241, xs241, xgP12_16, xl248, xs248, xgP12_17, xl256, xs256, xgP12_18, xl264, xs264, xgP12_19, xl274, xs274, xgP12_20, xl280, xs280, xgP12_22, xl288, xs288, xgP12_25, xl296, xs296, xgP12_26, xl305, xs305, xgP12_27, xl312, xs312, xgP12_28, xl321, xs321, xgP12_29, xl328, xs328, xgP12_31, xl336, xs336, xgP12_33, xl344, xs344, xgP12_46, xl352, xs352, xgP12_47, xl360, xs360, xgP2_0, xpL2_0, xgP2_1, xpL2_1, xgP2_2, xpL2_2, xgI2, xwZ2, xpR2, xmo, xpL_5, xpL_33, xpL_34, xpL_35, xpL_36, xpL_37, Nat.reduceMul, Nat.reduceAdd, hO.1, e1, i3m5]
  refine wp_loop (σ := Unit) (fun f k _ => F_X12_dropOrder_L14 f (b + 38) (q_i3 k)) (5 * (v.1.length - 1)) (fun p _ ν => 5 * k ≤ p ∧ Md [789, 2280] μ ν ∧ mI ν 789 (b + 38) = q_i3 (v.1.length - 1) ∧ ∀ q, aI ν 280 (b + 54) q = if 5 * k ≤ q ∧ q < p then aI μ 280 (b + 54) (q + 5) else aI μ 280 (b + 54) q) _ ?_ ?_ FU (5 * k) () _ (by omega) (by show _ < 100000; omega) ?_
  · rintro f x ν ⟨_, h1, h2, h3⟩
    have hK := h1.k0 hK
    show q_wp (F_X12_dropOrder_L14 (f + 1) (b + 38) (q_i3 (5 * (v.1.length - 1)))) ν _
    unfold F_X12_dropOrder_L14
    simp (maxSteps := 2000000) (disch := first | assumption | omega | (simp only [K0_sI, K0_sL, K0_tI, K0_tL, K0_nE]; assumption)) only [wp_bn, xgI11, xgL11, xwI11, xpR11, xgI4, xgL4, xwI4, xpR4, xgI7, xgL7, xwI7, xpR7, xgI12, xgL12, xwI12, xpR12, xgP11_0, xgP11_1, xgP11_2, xgP11_3, xgP11_4, xgP11_5, xgP11_6, xgP11_7, xgP4_0, xl115, xs115, xgP4_9, xl120, xs120, xgP7_0, xgP7_1, xl136, xs136, xgP7_2, xl144, xs144, xgP12_0, xl160, xs160, xgP12_4, xl168, xs168, xgP12_5, xl176, xs176, xgP12_6, xl184, xs184, xgP12_7, xl192, xs192, xgP12_8, xl200, xs200, xgP12_11, xl209, xs209, xgP12_12, xl218, xs218, xgP12_13, xl226, xs226, xgP12_14, xl232, xs232, xgP12_15, xl241, xs241, xgP12_16, xl248, xs248, xgP12_17, xl256, xs256, xgP12_18, xl264, xs264, xgP12_19, xl274, xs274, xgP12_20, xl280, xs280, xgP12_22, xl288, xs288, xgP12_25, xl296, xs296, xgP12_26, xl305, xs305, xgP12_27, xl312, xs312, xgP12_28, xl321, xs321, xgP12_29, xl328, xs328, xgP12_31, xl336, xs336, xgP12_33, xl344, xs344, xgP12_46, xl352, xs352, xgP12_47, xl360, xs360, xgP2_0, xpL2_0, xgP2_1, xpL2_1, xgP2_2, xpL2_2, xgI2, xwZ2, xpR2, xmo, xpL_5, xpL_33, xpL_34, xpL_35, xpL_36, xpL_37, Nat.reduceMul, Nat.reduceAdd, h2, wp_ite, i3m2, i3m4, i3m5, i3m6, i3m7, i3m12, i3m60, i3m72, i3m1600, i3r6, i3p1, i3p2, i3p3, i3p4, i3p5, i3p6, i3p7, i3p8, i3p9, i3p20, i3_add, i3_mul, i3_toNat, inA_i3, i3_lt, i3_le, i3_eq, Nat.le_refl, if_true, wp_rt]
    refine ⟨⟨by rw [h2, List.length_eraseIdx, if_pos hk], fun a ha => ?_⟩, h1⟩
    rw [List.length_eraseIdx, if_pos hk] at ha
    have e : (v.1.eraseIdx k).getD a q_o0 = if a < k then v.1.getD a q_o0 else v.1.getD (a + 1) q_o0 := by
      simp only [List.getD_eq_getElem?_getD, List.getElem?_eraseIdx]; split <;> rfl
    rw [e]
    simp only [h3]
    by_cases hak : a < k
    · obtain ⟨g0, g1, g2, g3, g4⟩ := hO.2 a (by omega)
      simp only [if_pos hak]
      rw [if_neg (by omega), if_neg (by omega), if_neg (by omega), if_neg (by omega), if_neg (by omega)]
      exact ⟨g0, g1, g2, g3, g4⟩
    · obtain ⟨g0, g1, g2, g3, g4⟩ := hO.2 (a + 1) (by omega)
      simp only [if_neg hak]
      rw [if_pos (by omega), if_pos (by omega), if_pos (by omega), if_pos (by omega), if_pos (by omega)]
      exact ⟨g0, g1, g2, g3, g4⟩
  · rintro f p x ν hp ⟨hkp, h1, h2, h3⟩ ih
    have hK := h1.k0 hK
    show q_wp (F_X12_dropOrder_L14 (f + 1) (b + 38) (q_i3 p)) ν _
    unfold F_X12_dropOrder_L14
    have hle : ¬ 5 * (v.1.length - 1) ≤ p := by omega
    have b1 : p + 5 < 600 := by omega
    have b2 : p < 600 := by omega
    simp (maxSteps := 2000000) (disch := first | assumption | omega | (simp only [K0_sI, K0_sL, K0_tI, K0_tL, K0_nE]; assumption)) only [wp_bn, xgI11, xgL11, xwI11, xpR11, xgI4, xgL4, xwI4, xpR4, xgI7, xgL7, xwI7, xpR7, xgI12, xgL12, xwI12, xpR12, xgP11_0, xgP11_1, xgP11_2, xgP11_3, xgP11_4, xgP11_5, xgP11_6, xgP11_7, xgP4_0, xl115, xs115, xgP4_9, xl120, xs120, xgP7_0, xgP7_1, xl136, xs136, xgP7_2, xl144, xs144, xgP12_0, xl160, xs160, xgP12_4, xl168, xs168, xgP12_5, xl176, xs176, xgP12_6, xl184, xs184, xgP12_7, xl192, xs192, xgP12_8, xl200, xs200, xgP12_11, xl209, xs209, xgP12_12, xl218, xs218, xgP12_13, xl226, xs226, xgP12_14, xl232, xs232, xgP12_15, xl241, xs241, xgP12_16, xl248, xs248, xgP12_17, xl256, xs256, xgP12_18, xl264, xs264, xgP12_19, xl274, xs274, xgP12_20, xl280, xs280, xgP12_22, xl288, xs288, xgP12_25, xl296, xs296, xgP12_26, xl305, xs305, xgP12_27, xl312, xs312, xgP12_28, xl321, xs321, xgP12_29, xl328, xs328, xgP12_31, xl336, xs336, xgP12_33, xl344, xs344, xgP12_46, xl352, xs352, xgP12_47, xl360, xs360, xgP2_0, xpL2_0, xgP2_1, xpL2_1, xgP2_2, xpL2_2, xgI2, xwZ2, xpR2, xmo, xpL_5, xpL_33, xpL_34, xpL_35, xpL_36, xpL_37, Nat.reduceMul, Nat.reduceAdd, h2, wp_ite, i3m2, i3m4, i3m5, i3m6, i3m7, i3m12, i3m60, i3m72, i3m1600, i3r6, i3p1, i3p2, i3p3, i3p4, i3p5, i3p6, i3p7, i3p8, i3p9, i3p20, i3_add, i3_mul, i3_toNat, inA_i3, i3_lt, i3_le, i3_eq, hle, if_false, b1, b2, true_and]
    refine ih () _ ⟨by omega, (h1.tr (Md.tI (kr hK 54 279 (by decide)))).wk rfl, h2, fun q => ?_⟩
    rw [aI_tI']
    by_cases e : q = p
    · rw [if_pos ⟨rfl, rfl, e⟩, h3, if_neg (by omega), if_pos (by omega), e]
    · rw [if_neg (fun z => e z.2.2), h3]
      by_cases e2 : 5 * k ≤ q ∧ q < p
      · rw [if_pos e2, if_pos (by omega)]
      · rw [if_neg e2, if_neg (by omega)]
  · exact ⟨by omega, (Md.sI (kr hK 38 12 (by decide))).wk rfl, by rw [mI_sI']; simp, fun q => by rw [if_neg (by omega)]; rfl⟩
