def eqv (v : VD) (i d : Nat) (k : Int32) : Int64 := dBa v d i + sumTo (fun j => (dPs v d i j).toInt64 * (pz (q_stOf v j d k)).toInt64) 6
def fEquity (s : q_St) (p d k : Int32) : Option Int64 := if q_inR p (vN (sM s)) ∧ q_inR d (dT (sD s)) ∧ d.toInt ≤ k.toInt ∧ k.toInt ≤ dT (sD s) then some (eqv (sD s) p.toNatClampNeg d.toNatClampNeg k) else none
theorem c_equity {μ : Mem} {b c : Nat} {s : q_St} (hK : K0 μ b) (hW : WF μ) (hA : q_AC μ b s) (hI : Iv s c) (p d k : Int32) : q_wp (F_X11_equity b p d k) μ (fun r ν => r = fEquity s p d k ∧ cOK μ b s 1 6 ν) := by
  obtain ⟨hM, hL, hO, hT, hD, hR, hN, hU, hP⟩ := id hA
  have hn := hI.1.1
  have hID := hI.2.2.2.2.1
  have hb := hID.1
  obtain ⟨F, eF⟩ : ∃ F, F = fEquity s p d k := ⟨_, rfl⟩
  rw [← eF]
  unfold fEquity at eF
  unfold F_X11_equity F_X11_equity_L17
  rw [wp_bn, xpR11 hK, wp_bn, wp_eq (c_memberOf hK hW hM p), wp_ite]
  by_cases h : q_inR p (vN (sM s))
  rotate_left
  · rw [if_neg (fun z => h z.1)] at eF; rw [if_neg h, if_pos rfl, wp_thr]; exact ⟨eF.symm, cOK.nE hK hW hA⟩
  obtain ⟨i, hi, rfl⟩ := inR_i3 h
  rw [if_pos h, if_neg (by simp), wp_bn, xpR11 hK, wp_bn]
  obtain ⟨x, ex, hx⟩ := c_isKnown (d := d) (k := k) hK hW hD hID
  rw [wp_eq ex, wp_ite]
  rcases hx with ⟨hx, rfl⟩ | ⟨hx, rfl⟩
  rotate_left
  · rw [if_neg (fun z => hx z.2)] at eF; rw [if_neg (by decide), wp_thr]; exact ⟨eF.symm, cOK.nE hK hW hA⟩
  have hok := cOK.rf (x := 1) (y := 6) hK hW hA
  obtain ⟨h1, h2, h3⟩ := hx
  rw [if_pos (by decide)]
  rw [if_pos ⟨h, h1, h2, h3⟩] at eF
  obtain ⟨e, he, rfl⟩ := inR_i3 h1
  rw [i3_toNat (by omega), i3_toNat (by omega)] at eF
  have hk : ¬ k < q_i3 e := by rw [Int32.lt_iff_toInt_lt]; omega
  have k37 := hK.k 37 14 (by decide)
  obtain ⟨⟨d1, d2, d3, d4, d5, d6, d7, d8, d9, d10⟩, g1, g2⟩ := hD.x.2.2 e he
  have d1' : mK μ ((q_lst μ (b + 37)).getD e 0) = 0 + 1 := d1
  have d4' : mP μ (64 * 0 + 2) ((q_lst μ (b + 37)).getD e 0) = some (dy μ b e + 3) := d4
  have hl37 : e < (q_lst μ (b + 37)).length := by rw [hD.x.2.1]; exact he
  rw [wp_bn, xgP11_7 hK, wp_bn, xpL_37 hK, wp_bn, wp_eq (ls_get hW k37 hl37), wp_bn, wp_cst]
  refine ⟨d1', ?_⟩
  rw [wp_bn, wp_gP, d4']
  refine ⟨d1', ?_⟩
  obtain ⟨t, ht, htx, htk⟩ := hW.2.1.1
  rw [wp_bn, wp_len, if_neg (by rw [ht]; intro z; rw [Option.some.inj z, htk] at d7; omega), d7, d10]
  refine ⟨by omega, ?_⟩
  obtain ⟨q1, q2, q3⟩ := hID.2.2.1 e he
  rw [wp_ite, show Int32.ofNat (dNm (sD s) e) = q_i3 (dNm (sD s) e) from rfl]
  by_cases hlt : i < dNm (sD s) e
  · rw [if_pos ((i3_lt (by omega) (by omega)).mpr hlt), wp_bn, wp_gP, d4']
    refine ⟨d1', ?_⟩
    rw [wp_bn, wp_lL, d7, d10, inA_i3 (by omega), i3_toNat (by omega), (g2 i hlt).1]
    refine ⟨rfl, hlt, ?_⟩
    have d3' : mP μ (64 * 0 + 1) ((q_lst μ (b + 37)).getD e 0) = some (dy μ b e + 2) := d3
    refine wp_loop (σ := Int64) (fun f j x => F_X11_equity_L65 f b (q_i3 i) (q_i3 e) k (some ((q_lst μ (b + 37)).getD e 0)) x (q_i3 j)) 6 (fun j x ν => ν = μ ∧ x = dBa (sD s) e i + sumTo (fun j => (dPs (sD s) e i j).toInt64 * (pz (q_stOf (sD s) j e k)).toInt64) j) _ ?_ ?_ FU 0 _ μ (by omega) (by show 6 - 0 < 100000; omega) ⟨rfl, by show _ = _ + sumTo _ 0; unfold sumTo; grind⟩
    · rintro f x ν ⟨rfl, rfl⟩
      unfold F_X11_equity_L65
      rw [wp_ite, if_pos (by decide), wp_rt]
      exact ⟨eF.symm, hok⟩
    · rintro f j x ν hj ⟨rfl, rfl⟩ ih
      show q_wp (F_X11_equity_L65 (f + 1) b (q_i3 i) (q_i3 e) k (some ((q_lst ν (b + 37)).getD e 0)) _ (q_i3 j)) ν _
      unfold F_X11_equity_L65
      have hle : ¬ (6 : Int32) ≤ q_i3 j := fun z => by have := (i3_le (a := 6) (b := j) (by omega) (by omega)).mp z; omega
      rw [wp_ite, if_neg hle, wp_bn, wp_gP, d3']
      refine ⟨d1', ?_⟩
      rw [i3r6, i3_add, wp_bn, wp_lI, d6, d9, inA_i3 (by omega), i3_toNat (by omega), show i * 6 + j = 6 * i + j by omega, (g2 i hlt).2 j hj]
      refine ⟨rfl, by omega, ?_⟩
      rw [wp_bn, xpR11 hK, wp_bn, wp_eq (c_priceOn hK hW hD.x hID hj he hk), i3_1]
      refine ih _ ν ⟨rfl, ?_⟩
      show _ = _ + (sumTo _ j + _)
      grind
  · rw [if_neg (fun z => hlt ((i3_lt (by omega) (by omega)).mp z)), wp_rt]
    refine ⟨?_, hok⟩
    obtain ⟨z1, z2⟩ := q3 i (by omega) (by omega)
    rw [eF]
    unfold eqv
    rw [z1]
    have : sumTo (fun j => (dPs (sD s) e i j).toInt64 * (pz (q_stOf (sD s) j e k)).toInt64) 6 = sumTo (fun _ => 0) 6 := sumTo_congr fun j hj => by
      rw [z2 j hj]; show (0 : Int64) * _ = 0; grind
    rw [this]; rfl
theorem r_equity {μ : Mem} {b c : Nat} {s : q_St} (hK : K0 μ b) (hA : q_AR μ b s) (hI : Iv s c) (p d k : Int32) : q_wp (F_X12_equity (b + 38) p d k) μ (fun r ν => (∀ x, fEquity s p d k = some x → r = x) ∧ rOK μ b s (if fEquity s p d k = none then 1 else 0) ν) := by
  have hn := hI.1.1
  have hID := hI.2.2.2.2.1
  have hb := hID.1
  unfold F_X12_equity F_X12_equity_L44
  refine r_start hK hA fun μ hK hA h0 => ?_
  obtain ⟨hM, hL, hO, hT, hD, hR, hN, hU, hP⟩ := id hA
  obtain ⟨F, eF⟩ : ∃ F, F = fEquity s p d k := ⟨_, rfl⟩
  rw [← eF]
  unfold fEquity at eF
  have no : F = none → q_wp (bn (wI 12 35 (some (b + 38)) (1 : Int32)) fun _ => rt (0 : Int64)) μ (fun r ν => (∀ x, F = some x → r = x) ∧ rOK μ b s (if F = none then 1 else 0) ν) := by
    intro h
    rw [h, wp_bn, xwI12 hK, wp_rt]
    exact ⟨fun x hx => (by cases hx), rOK.t1 hK hA⟩
  rw [wp_bn, xpR12 hK, wp_bn, wp_eq (r_isMember hK hM hn p), wp_ite]
  by_cases h : q_inR p (vN (sM s))
  rotate_left
  · rw [if_neg h, if_pos rfl]; exact no (by rw [eF, if_neg (fun z => h z.1)])
  rw [if_pos h, if_neg (by decide), wp_bn, xgI12 hK, show mI μ (64 * 12 + 24) (b + 38) = q_i3 (dT (sD s)) from hD.1, wp_bn, wp_eq (in_cnt (by omega)), wp_ite]
  by_cases h1 : q_inR d (dT (sD s))
  rotate_left
  · rw [if_neg h1, if_pos rfl]; exact no (by rw [eF, if_neg (fun z => h1 z.2.1)])
  rw [if_pos h1, if_neg (by decide), wp_bn, xgI12 hK, show mI μ (64 * 12 + 24) (b + 38) = q_i3 (dT (sD s)) from hD.1, wp_bn, wp_eq in_wp, wp_ite, Int32.toInt_toInt64, Int32.toInt_toInt64, Int32.toInt_toInt64, i3_toInt (by omega)]
  by_cases h2 : d.toInt ≤ k.toInt ∧ k.toInt ≤ dT (sD s)
  rotate_left
  · rw [if_neg h2, if_neg (by decide)]; exact no (by rw [eF, if_neg (fun z => h2 z.2.2)])
  rw [if_pos h2, if_pos (by decide)]
  rw [if_pos ⟨h, h1, h2⟩] at eF
  obtain ⟨i, hi, rfl⟩ := inR_i3 h
  obtain ⟨e, he, rfl⟩ := inR_i3 h1
  rw [i3_toNat (by omega), i3_toNat (by omega)] at eF
  have hk : ¬ k < q_i3 e := by rw [Int32.lt_iff_toInt_lt]; omega
  obtain ⟨g1, g2⟩ := hD.2.2.1 e he
  obtain ⟨g3, g4⟩ := g2 i (by omega)
  rw [wp_bn, xgP12_26 hK, i3m12, i3_add, wp_bn, xl305 hK, i3_toNat (by omega)]
  refine ⟨inA_of (by omega) (by omega), ?_⟩
  refine wp_loop (σ := Int64) (fun f j x => F_X12_equity_L67 f (b + 38) (q_i3 i) (q_i3 e) k x (q_i3 j)) 6 (fun j x ν => ν = μ ∧ x = aL μ 305 (b + 57) (12 * e + i) + (sumTo (fun j => (dPs (sD s) e i j).toInt64 * (pz (q_stOf (sD s) j e k)).toInt64) j - sumTo (fun j => aL μ 321 (b + 59) (72 * e + (6 * i + j))) j)) _ ?_ ?_ FU 0 _ μ (by omega) (by show 6 - 0 < 100000; omega) ⟨rfl, by show _ = _ + (sumTo _ 0 - sumTo _ 0); unfold sumTo; grind⟩
  · rintro f x ν ⟨rfl, rfl⟩
    unfold F_X12_equity_L67
    rw [wp_ite, if_pos (by decide), wp_rt, eF]
    refine ⟨fun x hx => ?_, rOK.rf hA h0⟩
    rw [← Option.some.inj hx]
    unfold eqv
    rw [← g3, sm6_sum]
    grind
  · rintro f j x ν hj ⟨rfl, rfl⟩ ih
    show q_wp (F_X12_equity_L67 (f + 1) (b + 38) (q_i3 i) (q_i3 e) k _ (q_i3 j)) ν _
    unfold F_X12_equity_L67 F_X12_equity_L122
    have hle : ¬ (6 : Int32) ≤ q_i3 j := fun z => by have := (i3_le (a := 6) (b := j) (by omega) (by omega)).mp z; omega
    have b1 : 72 * e + 6 * i + j < 10872 := by omega
    have a1 : 72 * e + 6 * i + j = 72 * e + (6 * i + j) := by omega
    rw [wp_ite, if_neg hle]
    simp (maxSteps := 2000000) (disch := first | assumption | omega | (simp only [K0_sI, K0_sL, K0_tI, K0_tL, K0_nE]; assumption)) only [wp_bn, xgI11, xgL11, xwI11, xpR11, xgI4, xgL4, xwI4, xpR4, xgI7, xgL7, xwI7, xpR7, xgI12, xgL12, xwI12, xpR12, xgP11_0, xgP11_1, xgP11_2, xgP11_3, xgP11_4, xgP11_5, xgP11_6, xgP11_7, xgP4_0, xl115, xs115, xgP4_9, xl120, xs120, xgP7_0, xgP7_1, xl136, xs136, xgP7_2, xl144, xs144, xgP12_0, xl160, xs160, xgP12_4, xl168, xs168, xgP12_5, xl176, xs176, xgP12_6, xl184, xs184, xgP12_7, xl192, xs192, xgP12_8, xl200, xs200, xgP12_11, xl209, xs209, xgP12_12, xl218, xs218, xgP12_13, xl226, xs226, xgP12_14, xl232, xs232, xgP12_15, xl241, xs241, xgP12_16, xl248, xs248, xgP12_17, xl256, xs256, xgP12_18, xl264, xs264, xgP12_19, xl274, xs274, xgP12_20, xl280, xs280, xgP12_22, xl288, xs288, xgP12_25, xl296, xs296, xgP12_26, xl305, xs305, xgP12_27, xl312, xs312, xgP12_28, xl321, xs321, xgP12_29, xl328, xs328, xgP12_31, xl336, xs336, xgP12_33, xl344, xs344, xgP12_46, xl352, xs352, xgP12_47, xl360, xs360, xgP2_0, xpL2_0, xgP2_1, xpL2_1, xgP2_2, xpL2_2, xgI2, xwZ2, xpR2, xmo, xpL_5, xpL_33, xpL_34, xpL_35, xpL_36, xpL_37, wp_eq (r_settleOf hK hD hID hj he), wp_ite, i3m2, i3m4, i3m5, i3m6, i3m7, i3m12, i3m60, i3m72, i3m1600, i3r6, i3p1, i3p2, i3p3, i3p4, i3p5, i3p6, i3p7, i3p8, i3p9, i3p20, i3_add, i3_mul, i3_toNat, inA_i3, i3_lt, i3_le, i3_eq, b1, true_and]
    rw [a1, g4 j hj]
    by_cases z : q_stOf (sD s) j e k = -1
    · rw [if_neg (fun w => w z)]
      refine ih _ ν ⟨rfl, ?_⟩
      show _ = _ + (sumTo _ j + _ - (sumTo _ j + _))
      dsimp only
      have : pz (q_stOf (sD s) j e k) = 0 := by unfold pz; rw [if_pos z]
      rw [this]
      have : (0 : Int32).toInt64 = 0 := rfl
      rw [this]
      grind
    · rw [if_pos z]
      refine ih _ ν ⟨rfl, ?_⟩
      show _ = _ + (sumTo _ j + _ - (sumTo _ j + _))
      dsimp only
      have : pz (q_stOf (sD s) j e k) = q_stOf (sD s) j e k := by unfold pz; rw [if_neg z]
      rw [this]
      grind

def dueN (v : q_VM) (j : Nat) : Nat → Int32
  | 0 => 0
  | n + 1 => dueN v j n + (if 0 < - vPs v n j then - vPs v n j else 0)
def mostC (v : q_VM) (j : Nat) (c : Int32) : Int32 := if c = -1 then 0 else vPs v c.toNatClampNeg j
def cornN (v : q_VM) (j : Nat) : Nat → Int32
  | 0 => -1
  | n + 1 => if mostC v j (cornN v j n) < vPs v n j then q_i3 n else cornN v j n
theorem cornN_r (v : q_VM) (j : Nat) : ∀ n, n ≤ 12 → cornN v j n = -1 ∨ ∃ i, i < n ∧ cornN v j n = q_i3 i ∧ 0 < vPs v i j
  | 0, _ => Or.inl rfl
  | n + 1, hn => by
    show (if mostC v j (cornN v j n) < vPs v n j then q_i3 n else cornN v j n) = -1 ∨ ∃ i, i < n + 1 ∧ (if mostC v j (cornN v j n) < vPs v n j then q_i3 n else cornN v j n) = q_i3 i ∧ 0 < vPs v i j
    have h0 : (0 : Int32).toInt = 0 := rfl
    have ih := cornN_r v j n (by omega)
    by_cases h : mostC v j (cornN v j n) < vPs v n j
    · rw [if_pos h]
      right
      refine ⟨n, by omega, rfl, ?_⟩
      rcases ih with e | ⟨i, hi, e, hp⟩
      · rw [e] at h; exact h
      · rw [e] at h; unfold mostC at h; rw [if_neg (i3_ne_m1 (by omega)), i3_toNat (by omega)] at h
        rw [Int32.lt_iff_toInt_lt] at h hp ⊢; omega
    · rw [if_neg h]
      rcases ih with e | ⟨i, hi, e, hp⟩
      · exact Or.inl e
      · exact Or.inr ⟨i, by omega, e, hp⟩
theorem c_posAt {μ : Mem} {b i j : Nat} {v : q_VM} {Q : Int32 → Mem → Prop} (hM : q_CM μ b v) (hi : i < vN v) (hj : j < 6) : q_wp (bn (cst 1 (some (mr μ b i))) fun _ => bn (gP 1 0 (some (mr μ b i))) fun v7 => lI 104 v7 (q_i3 j)) μ Q ↔ Q (vPs v i j) μ := by
  obtain ⟨⟨m1, m2, m3, m4⟩, p1, p2, p3, p4, p5⟩ := hM.2 i hi
  rw [wp_bn, wp_cst, wp_bn, wp_gP, show mP μ (64 * 1 + 0) (mr μ b i) = some (mr μ b i + 1) from m2, wp_lI, m4, inA_i3 (by omega), i3_toNat (by omega), p5 j hj]
  exact ⟨fun h => h.2.2.2.2, fun h => ⟨m1, m1, m3, hj, h⟩⟩
theorem c_dueIn {μ : Mem} {b j : Nat} {v : q_VM} (hK : K0 μ b) (hW : WF μ) (hM : q_CM μ b v) (hn : vN v ≤ 12) (hj : j < 6) : F_X11_dueIn b (q_i3 j) μ = some (dueN v j (vN v), μ) := by
  apply eq_wp
  unfold F_X11_dueIn
  have k33 := hK.k 33 14 (by decide)
  refine wp_loop (σ := Int32) (fun f k x => F_X11_dueIn_L4 f b (q_i3 j) x (q_i3 k)) (vN v) (fun k x ν => ν = μ ∧ x = dueN v j k) _ ?_ ?_ FU 0 0 μ (by omega) (by show _ < 100000; omega) ⟨rfl, rfl⟩
  · rintro f x ν ⟨rfl, rfl⟩
    unfold F_X11_dueIn_L4
    simp (maxSteps := 2000000) (disch := first | assumption | omega | (simp only [K0_sI, K0_sL, K0_tI, K0_tL, K0_nE]; assumption)) only [wp_bn, xgI11, xgL11, xwI11, xpR11, xgI4, xgL4, xwI4, xpR4, xgI7, xgL7, xwI7, xpR7, xgI12, xgL12, xwI12, xpR12, xgP11_0, xgP11_1, xgP11_2, xgP11_3, xgP11_4, xgP11_5, xgP11_6, xgP11_7, xgP4_0, xl115, xs115, xgP4_9, xl120, xs120, xgP7_0, xgP7_1, xl136, xs136, xgP7_2, xl144, xs144, xgP12_0, xl160, xs160, xgP12_4, xl168, xs168, xgP12_5, xl176, xs176, xgP12_6, xl184, xs184, xgP12_7, xl192, xs192, xgP12_8, xl200, xs200, xgP12_11, xl209, xs209, xgP12_12, xl218, xs218, xgP12_13, xl226, xs226, xgP12_14, xl232, xs232, xgP12_15, xl241, xs241, xgP12_16, xl248, xs248, xgP12_17, xl256, xs256, xgP12_18, xl264, xs264, xgP12_19, xl274, xs274, xgP12_20, xl280, xs280, xgP12_22, xl288, xs288, xgP12_25, xl296, xs296, xgP12_26, xl305, xs305, xgP12_27, xl312, xs312, xgP12_28, xl321, xs321, xgP12_29, xl328, xs328, xgP12_31, xl336, xs336, xgP12_33, xl344, xs344, xgP12_46, xl352, xs352, xgP12_47, xl360, xs360, xgP2_0, xpL2_0, xgP2_1, xpL2_1, xgP2_2, xpL2_2, xgI2, xwZ2, xpR2, xmo, xpL_5, xpL_33, xpL_34, xpL_35, xpL_36, xpL_37, wp_eq (ls_size hW k33), hM.1, wp_ite, i3m2, i3m4, i3m5, i3m6, i3m7, i3m12, i3m60, i3m72, i3m1600, i3r6, i3p1, i3p2, i3p3, i3p4, i3p5, i3p6, i3p7, i3p8, i3p9, i3p20, i3_add, i3_mul, i3_toNat, inA_i3, i3_lt, i3_le, i3_eq, Nat.le_refl, if_true, wp_rt]
    exact ⟨trivial, trivial⟩
  · rintro f k x ν hk ⟨rfl, rfl⟩ ih
    show q_wp (F_X11_dueIn_L4 (f + 1) b (q_i3 j) _ (q_i3 k)) ν _
    unfold F_X11_dueIn_L4
    obtain ⟨⟨m1, m2, m3, m4⟩, p1, p2, p3, p4, p5⟩ := hM.2 k hk
    have hle : ¬ vN v ≤ k := by omega
    simp (maxSteps := 2000000) (disch := first | assumption | omega | (simp only [K0_sI, K0_sL, K0_tI, K0_tL, K0_nE]; assumption)) only [wp_bn, xgI11, xgL11, xwI11, xpR11, xgI4, xgL4, xwI4, xpR4, xgI7, xgL7, xwI7, xpR7, xgI12, xgL12, xwI12, xpR12, xgP11_0, xgP11_1, xgP11_2, xgP11_3, xgP11_4, xgP11_5, xgP11_6, xgP11_7, xgP4_0, xl115, xs115, xgP4_9, xl120, xs120, xgP7_0, xgP7_1, xl136, xs136, xgP7_2, xl144, xs144, xgP12_0, xl160, xs160, xgP12_4, xl168, xs168, xgP12_5, xl176, xs176, xgP12_6, xl184, xs184, xgP12_7, xl192, xs192, xgP12_8, xl200, xs200, xgP12_11, xl209, xs209, xgP12_12, xl218, xs218, xgP12_13, xl226, xs226, xgP12_14, xl232, xs232, xgP12_15, xl241, xs241, xgP12_16, xl248, xs248, xgP12_17, xl256, xs256, xgP12_18, xl264, xs264, xgP12_19, xl274, xs274, xgP12_20, xl280, xs280, xgP12_22, xl288, xs288, xgP12_25, xl296, xs296, xgP12_26, xl305, xs305, xgP12_27, xl312, xs312, xgP12_28, xl321, xs321, xgP12_29, xl328, xs328, xgP12_31, xl336, xs336, xgP12_33, xl344, xs344, xgP12_46, xl352, xs352, xgP12_47, xl360, xs360, xgP2_0, xpL2_0, xgP2_1, xpL2_1, xgP2_2, xpL2_2, xgI2, xwZ2, xpR2, xmo, xpL_5, xpL_33, xpL_34, xpL_35, xpL_36, xpL_37, wp_eq (ls_size hW k33), hM.1, wp_ite, i3m2, i3m4, i3m5, i3m6, i3m7, i3m12, i3m60, i3m72, i3m1600, i3r6, i3p1, i3p2, i3p3, i3p4, i3p5, i3p6, i3p7, i3p8, i3p9, i3p20, i3_add, i3_mul, i3_toNat, inA_i3, i3_lt, i3_le, i3_eq, hle, if_false, wp_eq (ls_get hW k33 (show k < (q_lst ν (b + 33)).length by rw [hM.1]; exact hk)), wp_cst]
    show mK ν (mr ν b k) = 1 + 1 ∧ q_wp (gP 1 0 (some (mr ν b k))) ν _
    refine ⟨m1, ?_⟩
    rw [wp_gP, show mP ν (64 * 1 + 0) (mr ν b k) = some (mr ν b k + 1) from m2, wp_lI, m4, inA_i3 (by omega), i3_toNat (by omega), p5 j hj]
    exact ⟨m1, m3, hj, ih _ ν ⟨rfl, rfl⟩⟩
theorem c_cornerOf {μ : Mem} {b j : Nat} {v : q_VM} (hK : K0 μ b) (hW : WF μ) (hM : q_CM μ b v) (hn : vN v ≤ 12) (hj : j < 6) : F_X11_cornerOf b (q_i3 j) μ = some (cornN v j (vN v), μ) := by
  apply eq_wp
  unfold F_X11_cornerOf
  have k33 := hK.k 33 14 (by decide)
  refine wp_loop (σ := Int32 × Int32) (fun f k x => F_X11_cornerOf_L7 f b (q_i3 j) x.1 x.2 (q_i3 k)) (vN v) (fun k x ν => ν = μ ∧ x.1 = cornN v j k ∧ x.2 = mostC v j (cornN v j k)) _ ?_ ?_ FU 0 (-1, 0) μ (by omega) (by show _ < 100000; omega) ⟨rfl, rfl, rfl⟩
  · rintro f ⟨x, y⟩ ν ⟨rfl, rfl, rfl⟩
    unfold F_X11_cornerOf_L7
    simp (maxSteps := 2000000) (disch := first | assumption | omega | (simp only [K0_sI, K0_sL, K0_tI, K0_tL, K0_nE]; assumption)) only [wp_bn, xgI11, xgL11, xwI11, xpR11, xgI4, xgL4, xwI4, xpR4, xgI7, xgL7, xwI7, xpR7, xgI12, xgL12, xwI12, xpR12, xgP11_0, xgP11_1, xgP11_2, xgP11_3, xgP11_4, xgP11_5, xgP11_6, xgP11_7, xgP4_0, xl115, xs115, xgP4_9, xl120, xs120, xgP7_0, xgP7_1, xl136, xs136, xgP7_2, xl144, xs144, xgP12_0, xl160, xs160, xgP12_4, xl168, xs168, xgP12_5, xl176, xs176, xgP12_6, xl184, xs184, xgP12_7, xl192, xs192, xgP12_8, xl200, xs200, xgP12_11, xl209, xs209, xgP12_12, xl218, xs218, xgP12_13, xl226, xs226, xgP12_14, xl232, xs232, xgP12_15, xl241, xs241, xgP12_16, xl248, xs248, xgP12_17, xl256, xs256, xgP12_18, xl264, xs264, xgP12_19, xl274, xs274, xgP12_20, xl280, xs280, xgP12_22, xl288, xs288, xgP12_25, xl296, xs296, xgP12_26, xl305, xs305, xgP12_27, xl312, xs312, xgP12_28, xl321, xs321, xgP12_29, xl328, xs328, xgP12_31, xl336, xs336, xgP12_33, xl344, xs344, xgP12_46, xl352, xs352, xgP12_47, xl360, xs360, xgP2_0, xpL2_0, xgP2_1, xpL2_1, xgP2_2, xpL2_2, xgI2, xwZ2, xpR2, xmo, xpL_5, xpL_33, xpL_34, xpL_35, xpL_36, xpL_37, wp_eq (ls_size hW k33), hM.1, wp_ite, i3m2, i3m4, i3m5, i3m6, i3m7, i3m12, i3m60, i3m72, i3m1600, i3r6, i3p1, i3p2, i3p3, i3p4, i3p5, i3p6, i3p7, i3p8, i3p9, i3p20, i3_add, i3_mul, i3_toNat, inA_i3, i3_lt, i3_le, i3_eq, Nat.le_refl, if_true, wp_rt]
    exact ⟨trivial, trivial⟩
  · rintro f k ⟨x, y⟩ ν hk ⟨rfl, hx, hy⟩ ih
    have hx : x = cornN v j k := hx
    have hy : y = mostC v j (cornN v j k) := hy
    subst hx hy
    show q_wp (F_X11_cornerOf_L7 (f + 1) b (q_i3 j) _ _ (q_i3 k)) ν _
    unfold F_X11_cornerOf_L7 F_X11_cornerOf_L50
    obtain ⟨⟨m1, m2, m3, m4⟩, p1, p2, p3, p4, p5⟩ := hM.2 k hk
    have hle : ¬ vN v ≤ k := by omega
    simp (maxSteps := 2000000) (disch := first | assumption | omega | (simp only [K0_sI, K0_sL, K0_tI, K0_tL, K0_nE]; assumption)) only [wp_bn, xgI11, xgL11, xwI11, xpR11, xgI4, xgL4, xwI4, xpR4, xgI7, xgL7, xwI7, xpR7, xgI12, xgL12, xwI12, xpR12, xgP11_0, xgP11_1, xgP11_2, xgP11_3, xgP11_4, xgP11_5, xgP11_6, xgP11_7, xgP4_0, xl115, xs115, xgP4_9, xl120, xs120, xgP7_0, xgP7_1, xl136, xs136, xgP7_2, xl144, xs144, xgP12_0, xl160, xs160, xgP12_4, xl168, xs168, xgP12_5, xl176, xs176, xgP12_6, xl184, xs184, xgP12_7, xl192, xs192, xgP12_8, xl200, xs200, xgP12_11, xl209, xs209, xgP12_12, xl218, xs218, xgP12_13, xl226, xs226, xgP12_14, xl232, xs232, xgP12_15, xl241, xs241, xgP12_16, xl248, xs248, xgP12_17, xl256, xs256, xgP12_18, xl264, xs264, xgP12_19, xl274, xs274, xgP12_20, xl280, xs280, xgP12_22, xl288, xs288, xgP12_25, xl296, xs296, xgP12_26, xl305, xs305, xgP12_27, xl312, xs312, xgP12_28, xl321, xs321, xgP12_29, xl328, xs328, xgP12_31, xl336, xs336, xgP12_33, xl344, xs344, xgP12_46, xl352, xs352, xgP12_47, xl360, xs360, xgP2_0, xpL2_0, xgP2_1, xpL2_1, xgP2_2, xpL2_2, xgI2, xwZ2, xpR2, xmo, xpL_5, xpL_33, xpL_34, xpL_35, xpL_36, xpL_37, wp_eq (ls_size hW k33), hM.1, wp_ite, i3m2, i3m4, i3m5, i3m6, i3m7, i3m12, i3m60, i3m72, i3m1600, i3r6, i3p1, i3p2, i3p3, i3p4, i3p5, i3p6, i3p7, i3p8, i3p9, i3p20, i3_add, i3_mul, i3_toNat, inA_i3, i3_lt, i3_le, i3_eq, hle, if_false, wp_eq (ls_get hW k33 (show k < (q_lst ν (b + 33)).length by rw [hM.1]; exact hk)), wp_cst]
    show mK ν (mr ν b k) = 1 + 1 ∧ q_wp (gP 1 0 (some (mr ν b k))) ν _
    refine ⟨m1, ?_⟩
    rw [wp_gP, show mP ν (64 * 1 + 0) (mr ν b k) = some (mr ν b k + 1) from m2, wp_lI, m4, inA_i3 (by omega), i3_toNat (by omega), p5 j hj]
    refine ⟨m1, m3, hj, ?_⟩
    have e : cornN v j (k + 1) = if mostC v j (cornN v j k) < vPs v k j then q_i3 k else cornN v j k := rfl
    by_cases h : mostC v j (cornN v j k) < vPs v k j
    · rw [if_neg (by rw [Int32.le_iff_toInt_le]; rw [Int32.lt_iff_toInt_lt] at h; omega)]
      refine ih (q_i3 k, vPs v k j) ν ⟨rfl, by rw [e, if_pos h], ?_⟩
      rw [e, if_pos h]; unfold mostC; rw [if_neg (i3_ne_m1 (by omega)), i3_toNat (by omega)]
    · rw [if_pos (by rw [Int32.le_iff_toInt_le]; rw [Int32.lt_iff_toInt_lt] at h; omega)]
      exact ih (cornN v j k, mostC v j (cornN v j k)) ν ⟨rfl, by rw [e, if_neg h], by rw [e, if_neg h]⟩
def frb (v : q_VT) (p : Int32) (t : Nat) : Bool := v.2 t 3 == 1 && ! (v.2 t 2 == p)
theorem c_but {μ : Mem} {b n : Nat} {v : q_VT} {p : Int32} (hK : K0 μ b) (hW : WF μ) (hR : CR μ b v) (hI : IR v n) : F_X11_receiptsBut b p μ = some (q_i3 (q_cnt (frb v p) v.1), μ) := by
  apply eq_wp
  unfold F_X11_receiptsBut
  have k35 := hK.k 35 14 (by decide)
  have hn := hI.1
  refine wp_loop (σ := Int32) (fun f k x => F_X11_receiptsBut_L4 f b p x (q_i3 k)) v.1 (fun k x ν => ν = μ ∧ x = q_i3 (q_cnt (frb v p) k)) _ ?_ ?_ FU 0 0 μ (by omega) (by show _ < 100000; omega) ⟨rfl, rfl⟩
  · rintro f x ν ⟨rfl, rfl⟩
    unfold F_X11_receiptsBut_L4
    simp (maxSteps := 2000000) (disch := first | assumption | omega | (simp only [K0_sI, K0_sL, K0_tI, K0_tL, K0_nE]; assumption)) only [wp_bn, xgI11, xgL11, xwI11, xpR11, xgI4, xgL4, xwI4, xpR4, xgI7, xgL7, xwI7, xpR7, xgI12, xgL12, xwI12, xpR12, xgP11_0, xgP11_1, xgP11_2, xgP11_3, xgP11_4, xgP11_5, xgP11_6, xgP11_7, xgP4_0, xl115, xs115, xgP4_9, xl120, xs120, xgP7_0, xgP7_1, xl136, xs136, xgP7_2, xl144, xs144, xgP12_0, xl160, xs160, xgP12_4, xl168, xs168, xgP12_5, xl176, xs176, xgP12_6, xl184, xs184, xgP12_7, xl192, xs192, xgP12_8, xl200, xs200, xgP12_11, xl209, xs209, xgP12_12, xl218, xs218, xgP12_13, xl226, xs226, xgP12_14, xl232, xs232, xgP12_15, xl241, xs241, xgP12_16, xl248, xs248, xgP12_17, xl256, xs256, xgP12_18, xl264, xs264, xgP12_19, xl274, xs274, xgP12_20, xl280, xs280, xgP12_22, xl288, xs288, xgP12_25, xl296, xs296, xgP12_26, xl305, xs305, xgP12_27, xl312, xs312, xgP12_28, xl321, xs321, xgP12_29, xl328, xs328, xgP12_31, xl336, xs336, xgP12_33, xl344, xs344, xgP12_46, xl352, xs352, xgP12_47, xl360, xs360, xgP2_0, xpL2_0, xgP2_1, xpL2_1, xgP2_2, xpL2_2, xgI2, xwZ2, xpR2, xmo, xpL_5, xpL_33, xpL_34, xpL_35, xpL_36, xpL_37, wp_eq (ls_size hW k35), hR.1, wp_ite, i3m2, i3m4, i3m5, i3m6, i3m7, i3m12, i3m60, i3m72, i3m1600, i3r6, i3p1, i3p2, i3p3, i3p4, i3p5, i3p6, i3p7, i3p8, i3p9, i3p20, i3_add, i3_mul, i3_toNat, inA_i3, i3_lt, i3_le, i3_eq, Nat.le_refl, if_true, wp_rt]
    exact ⟨trivial, trivial⟩
  · rintro f k x ν hk ⟨rfl, rfl⟩ ih
    show q_wp (F_X11_receiptsBut_L4 (f + 1) b p _ (q_i3 k)) ν _
    unfold F_X11_receiptsBut_L4 F_X11_receiptsBut_L50 F_X11_receiptsBut_L51
    obtain ⟨g1, g2⟩ := hR.2 k hk
    have g3 : mI ν (64 * 5 + 3) ((q_lst ν (b + 35)).getD k 0) = v.2 k 3 := g2 3 (by omega)
    have g4 : mI ν (64 * 5 + 2) ((q_lst ν (b + 35)).getD k 0) = v.2 k 2 := g2 2 (by omega)
    have hle : ¬ v.1 ≤ k := by omega
    simp (maxSteps := 2000000) (disch := first | assumption | omega | (simp only [K0_sI, K0_sL, K0_tI, K0_tL, K0_nE]; assumption)) only [wp_bn, xgI11, xgL11, xwI11, xpR11, xgI4, xgL4, xwI4, xpR4, xgI7, xgL7, xwI7, xpR7, xgI12, xgL12, xwI12, xpR12, xgP11_0, xgP11_1, xgP11_2, xgP11_3, xgP11_4, xgP11_5, xgP11_6, xgP11_7, xgP4_0, xl115, xs115, xgP4_9, xl120, xs120, xgP7_0, xgP7_1, xl136, xs136, xgP7_2, xl144, xs144, xgP12_0, xl160, xs160, xgP12_4, xl168, xs168, xgP12_5, xl176, xs176, xgP12_6, xl184, xs184, xgP12_7, xl192, xs192, xgP12_8, xl200, xs200, xgP12_11, xl209, xs209, xgP12_12, xl218, xs218, xgP12_13, xl226, xs226, xgP12_14, xl232, xs232, xgP12_15, xl241, xs241, xgP12_16, xl248, xs248, xgP12_17, xl256, xs256, xgP12_18, xl264, xs264, xgP12_19, xl274, xs274, xgP12_20, xl280, xs280, xgP12_22, xl288, xs288, xgP12_25, xl296, xs296, xgP12_26, xl305, xs305, xgP12_27, xl312, xs312, xgP12_28, xl321, xs321, xgP12_29, xl328, xs328, xgP12_31, xl336, xs336, xgP12_33, xl344, xs344, xgP12_46, xl352, xs352, xgP12_47, xl360, xs360, xgP2_0, xpL2_0, xgP2_1, xpL2_1, xgP2_2, xpL2_2, xgI2, xwZ2, xpR2, xmo, xpL_5, xpL_33, xpL_34, xpL_35, xpL_36, xpL_37, wp_eq (ls_size hW k35), hR.1, wp_ite, i3m2, i3m4, i3m5, i3m6, i3m7, i3m12, i3m60, i3m72, i3m1600, i3r6, i3p1, i3p2, i3p3, i3p4, i3p5, i3p6, i3p7, i3p8, i3p9, i3p20, i3_add, i3_mul, i3_toNat, inA_i3, i3_lt, i3_le, i3_eq, hle, if_false, wp_eq (ls_get hW k35 (show k < (q_lst ν (b + 35)).length by rw [hR.1]; exact hk)), wp_cst, wp_gI, g1, g3, g4, true_and]
    have step : ∀ y, y = q_i3 (q_cnt (frb v p) (k + 1)) → q_wp (F_X11_receiptsBut_L4 f b p y (q_i3 (k + 1))) ν (fun a μ' => a = q_i3 (q_cnt (frb v p) v.1) ∧ μ' = ν) := fun y hy => ih y ν ⟨rfl, hy⟩
    have z1 : q_i3 (q_cnt (frb v p) k) + 1 = q_i3 (q_cnt (frb v p) k + 1) := i3_1 _
    have z0 : q_i3 (q_cnt (frb v p) k) + 0 = q_i3 (q_cnt (frb v p) k) := by simp
    have hb := (hI.2 k hk).2
    by_cases e : v.2 k 3 = 0
    · rw [if_pos e, z0]; exact step _ (by rw [cnt_succ]; unfold frb; simp [e])
    · rw [if_neg e]
      have e1 : v.2 k 3 = 1 := hb.resolve_left e
      by_cases e2 : v.2 k 2 = p
      · rw [if_pos e2, z0]; exact step _ (by rw [cnt_succ]; unfold frb; simp [e2])
      · rw [if_neg e2]; exact step _ (by rw [cnt_succ]; unfold frb; simp [e1, e2])
def sqz (s : q_St) (j : Nat) (q : Int32) : Int32 :=
  if q = 0 then (if (sG s).2 j = 0 then 0 else 1) else if q = 1 then dueN (sM s) j (vN (sM s)) else if q = 2 then cornN (sM s) j (vN (sM s)) else if q = 3 then q_i3 (q_cnt (frb (sR s) (cornN (sM s) j (vN (sM s)))) (sR s).1) else
    (if cornN (sM s) j (vN (sM s)) = -1 then 0 else if dueN (sM s) j (vN (sM s)) ≤ q_i3 (q_cnt (frb (sR s) (cornN (sM s) j (vN (sM s)))) (sR s).1) then 0 else if 2 * mostC (sM s) j (cornN (sM s) j (vN (sM s))) ≤ dueN (sM s) j (vN (sM s)) then 0 else 1)
def fSq (s : q_St) (m q : Int32) : Int32 := if q_inR m 6 ∧ q_inR q 5 then sqz s m.toNatClampNeg q else -1
theorem c_squeeze {μ : Mem} {b c : Nat} {s : q_St} (hK : K0 μ b) (hW : WF μ) (hA : q_AC μ b s) (hI : Iv s c) (m q : Int32) : q_wp (F_X11_squeeze b m q) μ (fun r ν => r = fSq s m q ∧ cOK μ b s 0 0 ν) := by
  obtain ⟨hM, hL, hO, hT, hD, hR, hN, hU, hP⟩ := id hA
  have hok := cOK.rf (x := 0) (y := 0) hK hW hA
  have hn := hI.1.1
  obtain ⟨F, eF⟩ : ∃ F, F = fSq s m q := ⟨_, rfl⟩
  rw [← eF]
  unfold fSq at eF
  unfold F_X11_squeeze
  rw [wp_bn, wp_eq c_isMonth, wp_ite]
  by_cases h : q_inR m 6
  rotate_left
  · rw [if_neg (fun z => h z.1)] at eF; rw [if_neg h, if_neg (by decide), wp_rt]; exact ⟨eF.symm, hok⟩
  obtain ⟨i, hi, rfl⟩ := inR_i3 h
  rw [if_pos h, if_pos (by decide)]
  rw [i3_toNat (by omega)] at eF
  by_cases h2 : q_inR q 5
  rotate_left
  · rw [if_neg (fun z => h2 z.2)] at eF
    have n0 : ¬ q = 0 := ne_lit h2 0 (by omega) (by omega); have n1 : ¬ q = 1 := ne_lit h2 1 (by omega) (by omega); have n2 : ¬ q = 2 := ne_lit h2 2 (by omega) (by omega); have n3 : ¬ q = 3 := ne_lit h2 3 (by omega) (by omega); have n4 : ¬ q = 4 := ne_lit h2 4 (by omega) (by omega)
    simp only [swF_cons, swF_nil, wp_bn, wp_rt, wp_ite, wp_gI, true_and, if_true, if_false, n0, n1, n2, n3, n4]; exact ⟨eF.symm, hok⟩
  rw [if_pos ⟨h, h2⟩] at eF
  unfold sqz at eF
  obtain ⟨j, hj, rfl⟩ := inR_i3 h2
  have hR' := hI.2.2.2.2.2.1
  rcases (show j = 0 ∨ j = 1 ∨ j = 2 ∨ j = 3 ∨ j = 4 by omega) with rfl | rfl | rfl | rfl | rfl
  · simp (decide := true) only [swF_cons, swF_nil, if_true] at eF ⊢
    have g3 := (hL i hi).2.2
    rw [wp_bn, xgP11_2 hK, wp_bn, xmo hK hi, wp_bn, xgI2 hK hi, show mI μ (64 * 2 + 3) (b + (9 + 4 * i)) = (sG s).2 i from g3, wp_ite]
    by_cases e : (sG s).2 i = 0
    · rw [if_pos e, wp_rt]; exact ⟨by rw [eF, if_pos e], hok⟩
    · rw [if_neg e, wp_rt]; exact ⟨by rw [eF, if_neg e], hok⟩
  · simp (decide := true) only [swF_cons, swF_nil, if_true, if_false] at eF ⊢
    rw [wp_bn, xpR11 hK, wp_bn, wp_eq (c_dueIn hK hW hM hn hi), wp_rt]; exact ⟨eF.symm, hok⟩
  · simp (decide := true) only [swF_cons, swF_nil, if_true, if_false] at eF ⊢
    rw [wp_bn, xpR11 hK, wp_bn, wp_eq (c_cornerOf hK hW hM hn hi), wp_rt]; exact ⟨eF.symm, hok⟩
  · simp (decide := true) only [swF_cons, swF_nil, if_true, if_false] at eF ⊢
    rw [wp_bn, xpR11 hK, wp_bn, wp_eq (c_cornerOf hK hW hM hn hi), wp_bn, xpR11 hK, wp_bn, wp_eq (c_but hK hW hR hR'), wp_rt]; exact ⟨eF.symm, hok⟩
  · simp (decide := true) only [swF_cons, swF_nil, if_true, if_false] at eF ⊢
    unfold F_X11_isSqueezed
    rw [wp_bn, xpR11 hK, wp_bn, wp_bn, xpR11 hK, wp_bn, wp_eq (c_cornerOf hK hW hM hn hi), wp_bn, xpR11 hK, wp_bn, wp_eq (c_memberOf hK hW hM _), wp_bn, xpR11 hK, wp_bn, wp_eq (c_dueIn hK hW hM hn hi)]
    have fin : ∀ x : Int32, (x = 0 ∨ x = 1) → x = F → (x = 0 ∨ x = 1) ∧ q_wp (if x = 0 then rt (0 : Int32) else rt (1 : Int32)) μ (fun r ν => r = F ∧ cOK μ b s 0 0 ν) := by
      intro x hx e
      refine ⟨hx, ?_⟩
      rw [wp_ite]
      rcases hx with h | h
      · rw [if_pos h, wp_rt]; exact ⟨by rw [← e, h], hok⟩
      · rw [if_neg (by rw [h]; decide), wp_rt]; exact ⟨by rw [← e, h], hok⟩
    rcases cornN_r (sM s) i (vN (sM s)) hn with ec | ⟨k, hk, ec, hp⟩
    · have hnr : ¬ q_inR (-1) (vN (sM s)) := by
        unfold q_inR; have : (-1 : Int32).toInt = -1 := rfl; omega
      rw [ec]
      simp only [hnr, if_false]
      rw [wp_ite, if_pos trivial, wp_rz]
      rw [if_pos ec] at eF
      exact fin 0 (Or.inl rfl) eF.symm
    · have hr : q_inR (q_i3 k) (vN (sM s)) := i3_inR hk (by omega)
      rw [if_neg (by rw [ec]; exact i3_ne_m1 (by omega))] at eF
      rw [ec] at eF ⊢
      rw [if_pos hr, wp_ite, if_neg (by simp), wp_bn, xpR11 hK, wp_bn, wp_eq (c_but hK hW hR hR'), i3_toNat (by omega), wp_ite]
      have em : mostC (sM s) i (q_i3 k) = vPs (sM s) k i := by unfold mostC; rw [if_neg (i3_ne_m1 (by omega)), i3_toNat (by omega)]
      rw [em] at eF
      by_cases h1 : dueN (sM s) i (vN (sM s)) ≤ q_i3 (q_cnt (frb (sR s) (q_i3 k)) (sR s).1)
      · rw [if_pos h1, wp_rz]; rw [if_pos h1] at eF; exact fin 0 (Or.inl rfl) eF.symm
      · rw [if_neg h1]; rw [if_neg h1] at eF
        obtain ⟨⟨m1, m2, m3, m4⟩, p1, p2, p3, p4, p5⟩ := hM.2 k hk
        rw [wp_bn, wp_gP, show mP μ (64 * 1 + 0) (mr μ b k) = some (mr μ b k + 1) from m2, wp_bn, wp_lI, m4, inA_i3 (by omega), i3_toNat (by omega), p5 i hi]
        refine ⟨m1, m3, hi, ?_⟩
        rw [wp_ite]
        by_cases h3 : 2 * vPs (sM s) k i ≤ dueN (sM s) i (vN (sM s))
        · rw [if_pos h3, wp_rz]; rw [if_pos h3] at eF; exact fin 0 (Or.inl rfl) eF.symm
        · rw [if_neg h3, wp_rz]; rw [if_neg h3] at eF; exact fin 1 (Or.inr rfl) eF.symm
theorem neg_bd {x : Int32} (h : -2000000000 ≤ x.toInt) : (- x).toInt = - x.toInt := by
  rw [Int32.toInt_neg]
  have := x.toInt_lt
  rw [Int.bmod_eq_of_le] <;> omega
theorem r_squeeze {μ : Mem} {b c : Nat} {s : q_St} (hK : K0 μ b) (hA : q_AR μ b s) (hI : Iv s c) (hc : c ≤ 600) (m q : Int32) : q_wp (F_X12_squeeze (b + 38) m q) μ (fun r ν => r = fSq s m q ∧ rOK μ b s 0 ν) := by
  have hn := hI.1.1
  have hR' := hI.2.2.2.2.2.1
  unfold F_X12_squeeze
  refine r_start hK hA fun μ hK hA h0 => ?_
  obtain ⟨hM, hL, hO, hT, hD, hR, hN, hU, hP⟩ := id hA
  have hok := rOK.rf hA h0
  obtain ⟨F, eF⟩ : ∃ F, F = fSq s m q := ⟨_, rfl⟩
  rw [← eF]
  unfold fSq at eF
  rw [wp_bn, wp_eq r_isMonth, wp_ite]
  by_cases h : q_inR m 6
  rotate_left
  · rw [if_neg (fun z => h z.1)] at eF; rw [if_neg h, if_pos rfl, wp_rt]; exact ⟨eF.symm, hok⟩
  obtain ⟨i, hi, rfl⟩ := inR_i3 h
  rw [if_pos h, if_neg (by decide), wp_bn, wp_eq (in_lit (n := 5) rfl), wp_ite]
  rw [i3_toNat (by omega)] at eF
  by_cases h2 : q_inR q 5
  rotate_left
  · rw [if_neg (fun z => h2 z.2)] at eF; rw [if_neg h2, if_neg (by decide), wp_rt]; exact ⟨eF.symm, hok⟩
  rw [if_pos ⟨h, h2⟩] at eF
  rw [if_pos h2, if_pos (by decide)]
  have hbd : ∀ k, k < 12 → -3600000 ≤ (vPs (sM s) k i).toInt ∧ (vPs (sM s) k i).toInt ≤ 3600000 := fun k hk => by have := hI.1.2.2.2.1 k hk i hi; omega
  have z0 : (0 : Int32).toInt = 0 := rfl
  have last : ∀ X Y : Int32, X = dueN (sM s) i (vN (sM s)) → Y = cornN (sM s) i (vN (sM s)) → q_wp (F_X12_squeeze_L111 FU (b + 38) (q_i3 i) q X Y 0 0) μ (fun r ν => r = F ∧ rOK μ b s 0 ν) := by
    intro X Y hX hY
    have hnr := hR'.1
    refine wp_loop (σ := Int32) (fun f k x => F_X12_squeeze_L111 f (b + 38) (q_i3 i) q X Y x (q_i3 k)) (sR s).1 (fun k x ν => ν = μ ∧ x = q_i3 (q_cnt (frb (sR s) Y) k)) _ ?_ ?_ FU 0 0 μ (by omega) (by show _ < 100000; omega) ⟨rfl, rfl⟩
    · rintro f x ν ⟨rfl, rfl⟩
      show q_wp (F_X12_squeeze_L111 (f + 1) (b + 38) (q_i3 i) q X Y _ (q_i3 (sR s).1)) ν _
      unfold F_X12_squeeze_L111
      rw [wp_bn, xgI12 hK, show mI ν (64 * 12 + 32) (b + 38) = q_i3 (sR s).1 from hR.1, wp_ite, if_pos ((i3_le (by omega) (by omega)).mpr (Nat.le_refl _))]
      unfold sqz at eF
      rw [← hX, ← hY] at eF
      obtain ⟨j, hj, rfl⟩ := inR_i3 h2
      rcases (show j = 0 ∨ j = 1 ∨ j = 2 ∨ j = 3 ∨ j = 4 by omega) with rfl | rfl | rfl | rfl | rfl
      · simp (decide := true) only [swF_cons, swF_nil, if_true] at eF ⊢
        rw [wp_bn, xgP12_19 hK, wp_bn, xl274 hK, i3_toNat (by omega), (hL i hi).2.1]
        refine ⟨inA_of (by omega) hi, ?_⟩
        rw [wp_ite]
        by_cases e : (sG s).2 i = 0
        · rw [if_pos e, wp_rt]; exact ⟨by rw [eF, if_pos e], hok⟩
        · rw [if_neg e, wp_rt]; exact ⟨by rw [eF, if_neg e], hok⟩
      · simp (decide := true) only [swF_cons, swF_nil, if_true, if_false, wp_rt] at eF ⊢; exact ⟨eF.symm, hok⟩
      · simp (decide := true) only [swF_cons, swF_nil, if_true, if_false, wp_rt] at eF ⊢; exact ⟨eF.symm, hok⟩
      · simp (decide := true) only [swF_cons, swF_nil, if_true, if_false, wp_rt] at eF ⊢; exact ⟨eF.symm, hok⟩
      · simp (decide := true) only [swF_cons, swF_nil, if_false] at eF ⊢
        rw [wp_ite]
        by_cases e1 : Y = -1
        · rw [if_pos e1] at eF; rw [if_pos e1, wp_rt]; exact ⟨eF.symm, hok⟩
        · rw [if_neg e1] at eF; rw [if_neg e1, wp_ite]
          by_cases e2 : X ≤ q_i3 (q_cnt (frb (sR s) Y) (sR s).1)
          · rw [if_pos e2] at eF; rw [if_pos e2, wp_rt]; exact ⟨eF.symm, hok⟩
          · rw [if_neg e2] at eF; rw [if_neg e2]
            obtain ⟨k, hk, ek⟩ : ∃ k, k < vN (sM s) ∧ Y = q_i3 k := by
              rcases cornN_r (sM s) i (vN (sM s)) hn with ec | ⟨k, hk, ec, _⟩
              · exact absurd (hY.trans ec) e1
              · exact ⟨k, hk, hY.trans ec⟩
            have b1 : 6 * k + i < 72 := by omega
            have em : mostC (sM s) i Y = vPs (sM s) k i := by unfold mostC; rw [if_neg e1, ek, i3_toNat (by omega)]
            rw [em] at eF
            rw [wp_bn, xgP12_14 hK, ek, i3m6, i3_add, wp_bn, xl232 hK, i3_toNat (by omega), (hM.2 k (by omega)).2.2.2.2 i hi]
            refine ⟨inA_of (by omega) b1, ?_⟩
            rw [wp_ite]
            have hb2 := hbd k (by omega)
            have eq2 : lg_cmp ((2 : Int64) * (vPs (sM s) k i).toInt64) X.toInt64 ≤ 0 ↔ 2 * vPs (sM s) k i ≤ X := by
              rw [lgc_le, Int32.le_iff_toInt_le, Int64.toInt_mul, Int32.toInt_toInt64, Int32.toInt_toInt64, Int32.toInt_mul]
              have : (2 : Int64).toInt = 2 := rfl
              have h2' : (2 : Int32).toInt = 2 := rfl
              rw [this, h2', Int.bmod_eq_of_le (by omega) (by omega), Int.bmod_eq_of_le (by omega) (by omega)]
            by_cases e3 : 2 * vPs (sM s) k i ≤ X
            · rw [if_pos e3] at eF; rw [if_pos (eq2.mpr e3), wp_rt]; exact ⟨eF.symm, hok⟩
            · rw [if_neg e3] at eF; rw [if_neg (fun z => e3 (eq2.mp z)), wp_rt]; exact ⟨eF.symm, hok⟩
    · rintro f k x ν hk ⟨rfl, rfl⟩ ih
      show q_wp (F_X12_squeeze_L111 (f + 1) (b + 38) (q_i3 i) q X Y _ (q_i3 k)) ν _
      unfold F_X12_squeeze_L111 F_X12_squeeze_L154
      have g3 : aI ν 336 (b + 61) (4 * k + 3) = (sR s).2 k 3 := hR.2 k hk 3 (by omega)
      have g4 : aI ν 336 (b + 61) (4 * k + 2) = (sR s).2 k 2 := hR.2 k hk 2 (by omega)
      have b3 : 4 * k + 3 < 240 := by omega
      have b2 : 4 * k + 2 < 240 := by omega
      have step : ∀ y, y = q_i3 (q_cnt (frb (sR s) Y) (k + 1)) → q_wp (F_X12_squeeze_L111 f (b + 38) (q_i3 i) q X Y y (q_i3 (k + 1))) ν (fun r ν' => r = F ∧ rOK ν b s 0 ν') := fun y hy => ih y ν ⟨rfl, hy⟩
      rw [wp_bn, xgI12 hK, show mI ν (64 * 12 + 32) (b + 38) = q_i3 (sR s).1 from hR.1, wp_ite, if_neg (fun z => by have := (i3_le (by omega) (by omega)).mp z; omega)]
      simp (maxSteps := 2000000) (disch := first | assumption | omega | (simp only [K0_sI, K0_sL, K0_tI, K0_tL, K0_nE]; assumption)) only [wp_bn, xgI11, xgL11, xwI11, xpR11, xgI4, xgL4, xwI4, xpR4, xgI7, xgL7, xwI7, xpR7, xgI12, xgL12, xwI12, xpR12, xgP11_0, xgP11_1, xgP11_2, xgP11_3, xgP11_4, xgP11_5, xgP11_6, xgP11_7, xgP4_0, xl115, xs115, xgP4_9, xl120, xs120, xgP7_0, xgP7_1, xl136, xs136, xgP7_2, xl144, xs144, xgP12_0, xl160, xs160, xgP12_4, xl168, xs168, xgP12_5, xl176, xs176, xgP12_6, xl184, xs184, xgP12_7, xl192, xs192, xgP12_8, xl200, xs200, xgP12_11, xl209, xs209, xgP12_12, xl218, xs218, xgP12_13, xl226, xs226, xgP12_14, xl232, xs232, xgP12_15, xl241, xs241, xgP12_16, xl248, xs248, xgP12_17, xl256, xs256, xgP12_18, xl264, xs264, xgP12_19, xl274, xs274, xgP12_20, xl280, xs280, xgP12_22, xl288, xs288, xgP12_25, xl296, xs296, xgP12_26, xl305, xs305, xgP12_27, xl312, xs312, xgP12_28, xl321, xs321, xgP12_29, xl328, xs328, xgP12_31, xl336, xs336, xgP12_33, xl344, xs344, xgP12_46, xl352, xs352, xgP12_47, xl360, xs360, xgP2_0, xpL2_0, xgP2_1, xpL2_1, xgP2_2, xpL2_2, xgI2, xwZ2, xpR2, xmo, xpL_5, xpL_33, xpL_34, xpL_35, xpL_36, xpL_37, Nat.reduceMul, Nat.reduceAdd, wp_ite, i3m2, i3m4, i3m5, i3m6, i3m7, i3m12, i3m60, i3m72, i3m1600, i3r6, i3p1, i3p2, i3p3, i3p4, i3p5, i3p6, i3p7, i3p8, i3p9, i3p20, i3_add, i3_mul, i3_toNat, inA_i3, i3_lt, i3_le, i3_eq, g3, g4, b2, b3, true_and]
      by_cases e1 : (sR s).2 k 3 = 1
      · rw [if_neg (fun z => z e1)]
        by_cases e2 : (sR s).2 k 2 = Y
        · rw [if_pos e2]; exact step _ (by rw [cnt_succ]; unfold frb; simp [e2])
        · rw [if_neg e2]; exact step _ (by rw [cnt_succ]; unfold frb; simp [e1, e2])
      · rw [if_pos e1]; exact step _ (by rw [cnt_succ]; unfold frb; simp [e1])
  refine wp_loop (σ := Int32 × Int32) (fun f k x => F_X12_squeeze_L34 f (b + 38) (q_i3 i) q x.1 x.2 (q_i3 k)) (vN (sM s)) (fun k x ν => ν = μ ∧ x.1 = dueN (sM s) i k ∧ x.2 = cornN (sM s) i k) _ ?_ ?_ FU 0 (0, -1) μ (by omega) (by show _ < 100000; omega) ⟨rfl, rfl, rfl⟩
  · rintro f ⟨x, y⟩ ν ⟨rfl, hx, hy⟩
    show q_wp (F_X12_squeeze_L34 (f + 1) (b + 38) (q_i3 i) q x y (q_i3 (vN (sM s)))) ν _
    unfold F_X12_squeeze_L34
    rw [wp_bn, xgI12 hK, show mI ν (64 * 12 + 10) (b + 38) = q_i3 (vN (sM s)) from hM.1, wp_ite, if_pos ((i3_le (by omega) (by omega)).mpr (Nat.le_refl _))]
    exact last x y hx hy
  · rintro f k ⟨x, y⟩ ν hk ⟨rfl, hx, hy⟩ ih
    have hx : x = dueN (sM s) i k := hx
    have hy : y = cornN (sM s) i k := hy
    show q_wp (F_X12_squeeze_L34 (f + 1) (b + 38) (q_i3 i) q x y (q_i3 k)) ν _
    unfold F_X12_squeeze_L34
    have b1 : 6 * k + i < 72 := by omega
    have hb2 := hbd k (by omega)
    rw [wp_bn, xgI12 hK, show mI ν (64 * 12 + 10) (b + 38) = q_i3 (vN (sM s)) from hM.1, wp_ite, if_neg (fun z => by have := (i3_le (by omega) (by omega)).mp z; omega), wp_bn, xgP12_14 hK, i3m6, i3_add, wp_bn, xl232 hK, i3_toNat (by omega), (hM.2 k (by omega)).2.2.2.2 i hi]
    refine ⟨inA_of (by omega) b1, ?_⟩
    have e : cornN (sM s) i (k + 1) = if mostC (sM s) i (cornN (sM s) i k) < vPs (sM s) k i then q_i3 k else cornN (sM s) i k := rfl
    have ed : dueN (sM s) i (k + 1) = dueN (sM s) i k + (if 0 < - vPs (sM s) k i then - vPs (sM s) k i else 0) := rfl
    have go : ∀ X, X = dueN (sM s) i (k + 1) → q_wp (F_X12_squeeze_L67 (F_X12_squeeze_L34 f) (b + 38) (q_i3 i) q X y (q_i3 k) (vPs (sM s) k i)) ν (fun r ν' => r = F ∧ rOK ν b s 0 ν') := by
      intro X hX
      unfold F_X12_squeeze_L67 F_X12_squeeze_L95 F_X12_squeeze_L99
      rw [i3_1, wp_ite]
      have em0 : 0 ≤ (mostC (sM s) i (cornN (sM s) i k)).toInt ∧ (cornN (sM s) i k = -1 → mostC (sM s) i (cornN (sM s) i k) = 0) := by
        rcases cornN_r (sM s) i k (by omega) with ec | ⟨a, ha, ec, hp⟩
        · rw [ec]; exact ⟨by show (0 : Int) ≤ 0; omega, fun _ => rfl⟩
        · rw [ec]; unfold mostC; rw [if_neg (i3_ne_m1 (by omega)), i3_toNat (by omega)]
          rw [Int32.lt_iff_toInt_lt, z0] at hp
          exact ⟨by omega, fun z => absurd z (i3_ne_m1 (by omega))⟩
      by_cases h1 : vPs (sM s) k i ≤ 0
      · rw [if_pos h1]
        refine ih (X, y) ν ⟨rfl, hX, ?_⟩
        rw [Int32.le_iff_toInt_le, z0] at h1
        rw [e, if_neg (by rw [Int32.lt_iff_toInt_lt]; omega)]; exact hy
      · rw [if_neg h1, wp_ite]
        rw [Int32.le_iff_toInt_le, z0] at h1
        by_cases h3 : y = -1
        · rw [if_pos h3]
          refine ih (X, q_i3 k) ν ⟨rfl, hX, ?_⟩
          rw [e, em0.2 (by rw [← hy]; exact h3), if_pos (by rw [Int32.lt_iff_toInt_lt, z0]; omega)]
        · rw [if_neg h3]
          obtain ⟨a, ha, ec⟩ : ∃ a, a < k ∧ y = q_i3 a := by
            rcases cornN_r (sM s) i k (by omega) with ec | ⟨a, ha, ec, _⟩
            · exact absurd (hy.trans ec) h3
            · exact ⟨a, ha, hy.trans ec⟩
          have em : mostC (sM s) i (cornN (sM s) i k) = vPs (sM s) a i := by rw [← hy, ec]; unfold mostC; rw [if_neg (i3_ne_m1 (by omega)), i3_toNat (by omega)]
          rw [wp_bn, xgP12_14 hK, ec, i3m6, i3_add, wp_bn, xl232 hK, i3_toNat (by omega), (hM.2 a (by omega)).2.2.2.2 i hi]
          refine ⟨inA_of (by omega) (by omega), ?_⟩
          rw [wp_ite]
          by_cases h4 : vPs (sM s) k i ≤ vPs (sM s) a i
          · rw [if_pos h4]
            refine ih (X, q_i3 a) ν ⟨rfl, hX, ?_⟩
            rw [e, em, if_neg (by rw [Int32.lt_iff_toInt_lt]; rw [Int32.le_iff_toInt_le] at h4; omega), ← hy, ec]
          · rw [if_neg h4]
            refine ih (X, q_i3 k) ν ⟨rfl, hX, ?_⟩
            rw [e, em, if_pos (by rw [Int32.lt_iff_toInt_lt]; rw [Int32.le_iff_toInt_le] at h4; omega)]
    rw [wp_ite]
    by_cases hz : 0 ≤ vPs (sM s) k i
    · rw [if_pos hz]
      refine go x ?_
      rw [Int32.le_iff_toInt_le, z0] at hz
      rw [ed, if_neg (by rw [Int32.lt_iff_toInt_lt, neg_bd (by omega), z0]; omega), hx]; simp
    · rw [if_neg hz]
      refine go _ ?_
      rw [Int32.le_iff_toInt_le, z0] at hz
      rw [ed, if_pos (by rw [Int32.lt_iff_toInt_lt, neg_bd (by omega), z0]; omega), hx, Int32.sub_eq_add_neg]

def tk (s : Int32) : Int32 → List (Int32 × Int32) → List (Int32 × Int32)
  | _, [] => []
  | left, q :: l => if q.1 = s ∧ 0 < left then (if q.2 - (if q.2 < left then q.2 else left) = 0 then tk s (left - (if q.2 < left then q.2 else left)) l else (q.1, q.2 - (if q.2 < left then q.2 else left)) :: tk s (left - (if q.2 < left then q.2 else left)) l) else q :: tk s left l
theorem tk_zero {s left : Int32} (h : ¬ 0 < left) : ∀ l, tk s left l = l
  | [] => rfl
  | q :: l => by unfold tk; rw [if_neg (fun z => h z.2), tk_zero h l]
theorem tk_len (s : Int32) : ∀ (l : List (Int32 × Int32)) (left : Int32), (tk s left l).length ≤ l.length
  | [], _ => Nat.le_refl _
  | q :: l, left => by
    unfold tk
    have ih := tk_len s l
    generalize (if q.2 < left then q.2 else left) = g
    by_cases h : q.1 = s ∧ 0 < left
    · rw [if_pos h]
      have := ih (left - g)
      by_cases h2 : q.2 - g = 0
      · rw [if_pos h2, List.length_cons]; omega
      · rw [if_neg h2, List.length_cons, List.length_cons]; omega
    · rw [if_neg h, List.length_cons, List.length_cons]; have := ih left; omega
def minI (x y : Int32) : Int32 := if x < y then x else y
theorem tk_mem {s : Int32} {n : Nat} : ∀ (l : List (Int32 × Int32)) (left : Int32), 0 ≤ left.toInt → (∀ q, q ∈ l → q_inR q.1 n ∧ 0 < q.2.toInt ∧ q.2.toInt ≤ 50) → ∀ q, q ∈ tk s left l → q_inR q.1 n ∧ 0 < q.2.toInt ∧ q.2.toInt ≤ 50
  | [], _, _, h, q, hq => h q hq
  | p :: l, left, h0, h, q, hq => by
    have hp := h p List.mem_cons_self
    have hl : ∀ q, q ∈ l → q_inR q.1 n ∧ 0 < q.2.toInt ∧ q.2.toInt ≤ 50 := fun q hq => h q (List.mem_cons_of_mem _ hq)
    unfold tk at hq
    have z0 : (0 : Int32).toInt = 0 := rfl
    by_cases hc : p.1 = s ∧ 0 < left
    · rw [if_pos hc] at hq
      have hlt := hc.2
      rw [Int32.lt_iff_toInt_lt, z0] at hlt
      have hg : (if p.2 < left then p.2 else left).toInt ≤ p.2.toInt ∧ (if p.2 < left then p.2 else left).toInt ≤ left.toInt ∧ 0 < (if p.2 < left then p.2 else left).toInt := by
        by_cases hh : p.2 < left
        · rw [if_pos hh]; rw [Int32.lt_iff_toInt_lt] at hh; omega
        · rw [if_neg hh]; rw [Int32.lt_iff_toInt_lt] at hh; omega
      generalize (if p.2 < left then p.2 else left) = g at hq hg
      have e1 : (p.2 - g).toInt = p.2.toInt - g.toInt := by rw [Int32.toInt_sub, Int.bmod_eq_of_le] <;> omega
      have e2 : (left - g).toInt = left.toInt - g.toInt := by have := left.toInt_lt; rw [Int32.toInt_sub, Int.bmod_eq_of_le] <;> omega
      by_cases hd : p.2 - g = 0
      · rw [if_pos hd] at hq; exact tk_mem l _ (by omega) hl q hq
      · rw [if_neg hd] at hq
        have : (p.2 - g).toInt ≠ 0 := fun z => hd (Int32.toInt_inj.mp (by rw [z, z0]))
        rcases List.mem_cons.mp hq with e | e
        · rw [e]; exact ⟨hp.1, by show 0 < (p.2 - g).toInt; omega, by show (p.2 - g).toInt ≤ 50; omega⟩
        · exact tk_mem l _ (by omega) hl q e
    · rw [if_neg hc] at hq
      rcases List.mem_cons.mp hq with e | e
      · rw [e]; exact hp
      · exact tk_mem l left h0 hl q e
def vw (μ : Mem) (r : Nat) : Int32 × Int32 := (mI μ 576 r, mI μ 579 r)
theorem er_mid {D R : List Nat} {r : Nat} : (D ++ r :: R).eraseIdx D.length = D ++ R := by
  rw [List.eraseIdx_append_of_length_le (Nat.le_refl _)]; simp
theorem c_take {b j all : Nat} {s : Int32} (hj : j < 6) (hall : all ≤ 100000) : ∀ (R D : List Nat) (ν : Mem) (left : Int32) (n f : Nat), K0 ν b → WF ν → q_lst ν (b + (12 + 4 * j)) = D ++ R → n + R.length = all → R.length < f → 0 ≤ left.toInt → (∀ r, r ∈ D ++ R → mK ν r = 10) → (∀ r, r ∈ R → 0 < (mI ν 579 r).toInt) →
    q_wp (F_X2_takeLongs_L17 f (b + (9 + 4 * j)) s left (q_i3 D.length) (q_i3 all) (q_i3 n)) ν (fun _ ρ => Cs [579, 832, 833, 834, 2372] [12 + 4 * j] 0 0 b ν ρ ∧ (∀ r, r ∉ R → mI ρ 579 r = mI ν 579 r) ∧ ∃ R', q_lst ρ (b + (12 + 4 * j)) = D ++ R' ∧ R'.map (vw ρ) = tk s left (R.map (vw ν)) ∧ ∀ r, r ∈ R' → r ∈ R) := by
  intro R
  induction R with
  | nil =>
    intro D ν left n f hK hW hl hn hf h0 hk hp
    obtain ⟨f, rfl⟩ : ∃ g, f = g + 1 := ⟨f - 1, by simp at hf; omega⟩
    unfold F_X2_takeLongs_L17
    have hn : n = all := by simpa using hn
    rw [wp_ite, if_pos ((i3_le (by omega) (by omega)).mpr (by omega)), wp_rt]
    exact ⟨(Cs.rf hW).wk rfl (by unfold subL; rfl) (by omega) (by omega), fun _ _ => rfl, [], hl, rfl, fun _ h => h⟩
  | cons r R ih =>
    intro D ν left n f hK hW hl hn hf h0 hk hp
    obtain ⟨f, rfl⟩ : ∃ g, f = g + 1 := ⟨f - 1, by omega⟩
    rw [List.length_cons] at hn hf
    unfold F_X2_takeLongs_L17
    rw [wp_ite, if_neg (fun z => by have := (i3_le (by omega) (by omega)).mp z; omega), wp_ite]
    have z0 : (0 : Int32).toInt = 0 := rfl
    by_cases hleft : left ≤ 0
    · rw [if_pos hleft, wp_rt]
      refine ⟨(Cs.rf hW).wk rfl (by unfold subL; rfl) (by omega) (by omega), fun _ _ => rfl, r :: R, hl, ?_, fun _ h => h⟩
      rw [tk_zero (by rw [Int32.le_iff_toInt_le, z0] at hleft; rw [Int32.lt_iff_toInt_lt, z0]; omega)]
    rw [if_neg hleft]
    rw [Int32.le_iff_toInt_le, z0] at hleft
    obtain ⟨_, _, _, _, _, _, k12⟩ := hK.mo hj
    have hb := (hW.ls k12).2.1
    rw [hl, List.length_append, List.length_cons] at hb
    have hDl : D.length < (q_lst ν (b + (12 + 4 * j))).length := by rw [hl, List.length_append, List.length_cons]; omega
    have eg : (q_lst ν (b + (12 + 4 * j))).getD D.length 0 = r := by rw [hl]; simp [List.getD_eq_getElem?_getD]
    have kr : mK ν r = 9 + 1 := hk r (by simp)
    have hLn : (q_lst ν (b + (12 + 4 * j))).length = D.length + (R.length + 1) := by rw [hl, List.length_append, List.length_cons]
    rw [wp_bn, xgP2_2 hK hj, wp_bn, xpL2_2 hK hj, wp_bn, wp_eq (ls_size hW k12), wp_ite, if_neg (fun z => by have := (i3_le (by omega) (by omega)).mp z; omega)]
    rw [wp_bn, xgP2_2 hK hj, wp_bn, xpL2_2 hK hj, wp_bn, wp_eq (ls_get hW k12 hDl), eg, wp_bn, wp_cst]
    refine ⟨kr, ?_⟩
    rw [wp_bn, wp_gI]
    refine ⟨kr, ?_⟩
    have hnd := hW.2.2.2.2.2 _ k12
    rw [hl] at hnd
    have hrR : r ∉ R := by
      have := (List.nodup_append.mp hnd).2.1
      exact (List.nodup_cons.mp this).1
    have hrD : r ∉ D := fun z => (List.nodup_append.mp hnd).2.2 r z r (by simp) rfl
    have hlots := hp r (by simp)
    have go : ∀ g : Int32, (0 ≤ g.toInt ∧ g.toInt ≤ left.toInt ∧ g.toInt ≤ (mI ν 579 r).toInt) → (tk s left ((r :: R).map (vw ν)) = if mI ν 579 r - g = 0 then tk s (left - g) (R.map (vw ν)) else (mI ν 576 r, mI ν 579 r - g) :: tk s (left - g) (R.map (vw ν))) → q_wp (F_X2_takeLongs_L76 (F_X2_takeLongs_L17 f) (b + (9 + 4 * j)) s left (q_i3 D.length) (q_i3 all) (q_i3 n) (some r) g) ν (fun _ ρ => Cs [579, 832, 833, 834, 2372] [12 + 4 * j] 0 0 b ν ρ ∧ (∀ x, x ∉ r :: R → mI ρ 579 x = mI ν 579 x) ∧ ∃ R', q_lst ρ (b + (12 + 4 * j)) = D ++ R' ∧ R'.map (vw ρ) = tk s left ((r :: R).map (vw ν)) ∧ ∀ x, x ∈ R' → x ∈ r :: R) := by
      intro g hg htk
      have e1 : (mI ν 579 r - g).toInt = (mI ν 579 r).toInt - g.toInt := by have := (mI ν 579 r).toInt_lt; rw [Int32.toInt_sub, Int.bmod_eq_of_le] <;> omega
      have e2 : (left - g).toInt = left.toInt - g.toInt := by have := left.toInt_lt; rw [Int32.toInt_sub, Int.bmod_eq_of_le] <;> omega
      unfold F_X2_takeLongs_L76 F_X2_takeLongs_L119
      rw [wp_bn, wp_gI]
      refine ⟨kr, ?_⟩
      rw [wp_bn, wp_wI]
      refine ⟨kr, ?_⟩
      rw [wp_bn, wp_gI]
      refine ⟨kr, ?_⟩
      obtain ⟨w, hw⟩ : ∃ w, w = mI ν 579 r - g := ⟨_, rfl⟩
      show q_wp _ (sI ν 579 r (mI ν 579 r - g)) _
      have er : mI (sI ν (64 * 9 + 3) r (mI ν (64 * 9 + 3) r - g)) (64 * 9 + 3) r = w := by rw [mI_sI', if_pos ⟨rfl, rfl⟩, hw]
      rw [er, ← hw]
      rw [← hw] at htk e1
      have hm1 : Md [579] ν (sI ν 579 r w) := Md.sI (by omega)
      have hC1 := hm1.cs (b := b) hW rfl
      have K1 : K0 (sI ν 579 r w) b := hK
      have l1 : q_lst (sI ν 579 r w) = q_lst ν := (hm1.wf hW rfl).2
      have f1 : ∀ x, x ≠ r → mI (sI ν 579 r w) 579 x = mI ν 579 x := fun x hx => by rw [mI_sI', if_neg (fun z => hx z.2)]
      have mapR : ∀ S : List Nat, (∀ x, x ∈ S → x ≠ r) → S.map (vw (sI ν 579 r w)) = S.map (vw ν) := fun S hS => by
        apply List.map_congr_left
        intro x hx
        unfold vw; rw [f1 x (hS x hx), mI_sI', if_neg (by omega)]
      have hRne : ∀ x, x ∈ R → x ≠ r := fun x hx z => hrR (z ▸ hx)
      rw [wp_ite]
      by_cases hw0 : w = 0
      · rw [if_neg (fun z => z hw0), wp_bn, xgP2_2 K1 hj, wp_bn, xpL2_2 K1 hj, wp_bn]
        refine q_wp_mono (ls_rem' hC1.1 k12 (by rw [l1]; exact hDl)) ?_
        rintro _ ν2 ⟨u, hx2⟩
        rw [l1, hl, er_mid] at u
        have hC2 := u.cs K1
        have K2 := hC2.k0 K1 rfl
        have f2 := u.2.1
        rw [i3_1]
        rw [if_pos hw0] at htk
        refine q_wp_mono (ih D ν2 (left - g) (n + 1) f K2 u.1 u.2.2.1 (by omega) (by omega) (by omega) (fun x hx => f2.k (hk x (by rcases List.mem_append.mp hx with q | q; exact List.mem_append_left _ q; exact List.mem_append_right _ (List.mem_cons_of_mem _ q))) (by omega)) (fun x hx => by rw [f2.i 579 rfl, f1 x (hRne x hx)]; exact hp x (List.mem_cons_of_mem _ hx))) ?_
        rintro _ ρ ⟨hC3, hfr, R', hl3, htk3, hsub⟩
        have hC := (hC1.tr hC2).tr hC3
        refine ⟨⟨hC.1, hC.2.1.wk rfl, fun o ho hn => hC.2.2.1 o ho (by simpa using hn), by have := hC3.2.2.2.1; have e : mX (sI ν 579 r w) = mX ν := rfl; omega, by have := hC3.2.2.2.2; have := u.2.2.2.2.2.2; have e : mS (sI ν 579 r w) = mS ν := rfl; omega⟩, fun x hx => ?_, R', hl3, ?_, fun x hx => List.mem_cons_of_mem _ (hsub x hx)⟩
        · have h1 : x ∉ R := fun z => hx (List.mem_cons_of_mem _ z)
          have h2 : x ≠ r := fun z => hx (by rw [z]; simp)
          rw [hfr x h1, f2.i 579 rfl, f1 x h2]
        · rw [htk3, htk]
          congr 1
          rw [← mapR R hRne]
          apply List.map_congr_left
          intro x _
          unfold vw; rw [f2.i 576 rfl, f2.i 579 rfl]
      · rw [if_pos hw0]
        rw [if_neg hw0] at htk
        have hl' : q_lst (sI ν 579 r w) (b + (12 + 4 * j)) = (D ++ [r]) ++ R := by rw [l1, hl]; simp
        have hlenD : (D ++ [r]).length = D.length + 1 := by simp
        rw [i3_1, i3_1, ← hlenD]
        refine q_wp_mono (ih (D ++ [r]) (sI ν 579 r w) (left - g) (n + 1) f K1 hC1.1 hl' (by omega) (by omega) (by omega) (fun x hx => hk x (by simpa using hx)) (fun x hx => by rw [f1 x (hRne x hx)]; exact hp x (List.mem_cons_of_mem _ hx))) ?_
        rintro _ ρ ⟨hC3, hfr, R', hl3, htk3, hsub⟩
        have hC := hC1.tr hC3
        refine ⟨⟨hC.1, hC.2.1.wk rfl, fun o ho hn => hC.2.2.1 o ho (by simpa using hn), by have := hC3.2.2.2.1; have e : mX (sI ν 579 r w) = mX ν := rfl; omega, by have := hC3.2.2.2.2; have e : mS (sI ν 579 r w) = mS ν := rfl; omega⟩, fun x hx => ?_, r :: R', by rw [hl3]; simp, ?_, fun x hx => ?_⟩
        · have h1 : x ∉ R := fun z => hx (List.mem_cons_of_mem _ z)
          have h2 : x ≠ r := fun z => hx (by rw [z]; simp)
          rw [hfr x h1, f1 x h2]
        · rw [List.map_cons, htk3, htk, mapR R hRne]
          congr 1
          unfold vw
          rw [hfr r hrR, hC3.2.1.i 576 rfl, mI_sI', if_neg (by omega), mI_sI', if_pos ⟨rfl, rfl⟩]
        · rcases List.mem_cons.mp hx with e | e
          · rw [e]; simp
          · exact List.mem_cons_of_mem _ (hsub x e)
    rw [show mI ν (64 * 9 + 0) r = mI ν 576 r from rfl]
    have hmap : (r :: R).map (vw ν) = (mI ν 576 r, mI ν 579 r) :: R.map (vw ν) := rfl
    rw [wp_ite]
    by_cases hs : mI ν 576 r = s
    · rw [if_neg (fun z => z hs), wp_bn, wp_gI]
      refine ⟨kr, ?_⟩
      show q_wp (F_X2_takeLongs_L76 _ _ _ _ _ _ _ _ (if mI ν 579 r < left then mI ν 579 r else left)) ν _
      refine go _ ?_ ?_
      · by_cases hh : mI ν 579 r < left
        · rw [if_pos hh]; rw [Int32.lt_iff_toInt_lt] at hh; omega
        · rw [if_neg hh]; rw [Int32.lt_iff_toInt_lt] at hh; omega
      · rw [hmap]
        show (if mI ν 576 r = s ∧ 0 < left then _ else _) = _
        rw [if_pos ⟨hs, by rw [Int32.lt_iff_toInt_lt, z0]; omega⟩]
    · rw [if_pos hs]
      refine go 0 ⟨by rw [z0]; omega, by rw [z0]; omega, by rw [z0]; omega⟩ ?_
      rw [hmap]
      show (if mI ν 576 r = s ∧ 0 < left then _ else _) = _
      have e0 : mI ν 579 r - 0 = mI ν 579 r := by simp
      have e00 : left - 0 = left := by simp
      rw [if_neg (fun z => hs z.1), e0, e00, if_neg (fun z => by rw [z, z0] at hlots; omega)]
theorem c_takeLongs {μ : Mem} {b j : Nat} {v : VL} {s lots : Int32} (hK : K0 μ b) (hW : WF μ) (hL : q_CL μ b v) (hj : j < 6) (h0 : 0 ≤ lots.toInt) (hp : ∀ q, q ∈ v.1 j → 0 < q.2.toInt) (hlen : (v.1 j).length < 99999) : q_wp (F_X2_takeLongs (b + (9 + 4 * j)) s lots) μ (fun _ ρ => Cs [579, 832, 833, 834, 2372] [12 + 4 * j] 0 0 b μ ρ ∧ (∀ r, r ∉ q_lst μ (b + (12 + 4 * j)) → mI ρ 579 r = mI μ 579 r) ∧ q_CL ρ b (q_upd v.1 j (tk s lots (v.1 j)), v.2)) := by
  unfold F_X2_takeLongs
  obtain ⟨_, _, _, _, _, _, k12⟩ := hK.mo hj
  obtain ⟨g1, g2, g3⟩ := hL j hj
  have hl := hL.len hj
  rw [wp_bn, xgP2_2 hK hj, wp_bn, xpL2_2 hK hj, wp_bn, wp_eq (ls_size hW k12)]
  refine q_wp_mono (c_take hj (by omega) (q_lst μ (b + (12 + 4 * j))) [] μ lots 0 FU hK hW rfl (by omega) (by show _ < 100000; omega) h0 (fun r hr => g2 r (by simpa using hr)) ?_) ?_
  · intro r hr
    have : (mI μ 576 r, mI μ 579 r) ∈ v.1 j := by rw [← g1]; exact List.mem_map_of_mem hr
    exact hp _ this
  · rintro _ ρ ⟨hC, hfr, R', hl', htk, hsub⟩
    refine ⟨hC, hfr, fun i hi => ?_⟩
    obtain ⟨q1, q2, q3⟩ := hL i hi
    refine ⟨?_, ?_, by rw [hC.2.1.i 131 rfl]; exact q3⟩
    · show _ = q_upd v.1 j _ i
      unfold q_upd
      by_cases e : i = j
      · subst e
        rw [if_pos rfl, hl', List.nil_append, ← g1]; exact htk
      · rw [if_neg e, hC.2.2.1 _ (lgO_lo hi) (by simp; omega), ← q1]
        apply List.map_congr_left
        intro r hr
        have hne : r ∉ q_lst μ (b + (12 + 4 * j)) := fun z => by
          have := hW.2.2.2.2.1 _ _ (hK.mo hi).2.2.2.2.2.2 k12 r hr z
          omega
        rw [hC.2.1.i 576 rfl, hfr r hne]
    · intro r hr
      by_cases e : i = j
      · subst e
        rw [hl', List.nil_append] at hr
        exact hC.2.1.k (g2 r (hsub r hr)) (by omega)
      · rw [hC.2.2.1 _ (lgO_lo hi) (by simp; omega)] at hr
        exact hC.2.1.k (q2 r hr) (by omega)

def updP (f : Nat → Nat → Int32) (i j : Nat) (x : Int32) : Nat → Nat → Int32 := fun a k => if a = i ∧ k = j then x else f a k
def gainM (v : q_VM) (i j : Nat) (l p : Int32) : q_VM := (vN v, vPd v, vCl v, vFa v, updP (vPs v) i j (vPs v i j + l), q_upd (vCs v) i (vCs v i + l.toInt64 * p.toInt64))
def moreX (v : q_VM) (i j : Nat) (l : Int32) : Int32 := l + (if vPs v i j < 0 then vPs v i j else 0)
def mvL (v : q_VM) (l : List (Int32 × Int32)) (bi si j : Nat) (lots : Int32) : List (Int32 × Int32) := tk (q_i3 si) lots l ++ (if moreX v bi j lots ≤ 0 then [] else [(q_i3 bi, moreX v bi j lots)])
def mvM (v : q_VM) (bi si j : Nat) (lots p : Int32) : q_VM := if bi = si then v else gainM (gainM v bi j lots p) si j (-lots) p
def mvG (v : q_VM) (g : Nat → List (Int32 × Int32)) (bi si j : Nat) (lots : Int32) : Nat → List (Int32 × Int32) := if bi = si then g else q_upd g j (mvL v (g j) bi si j lots)
theorem c_gain {μ : Mem} {b i j : Nat} {v : q_VM} {l p : Int32} (hK : K0 μ b) (hW : WF μ) (hM : q_CM μ b v) (hi : i < vN v) (hj : j < 6) : q_wp (F_X1_gain (mr μ b i) (q_i3 j) l p) μ (fun _ ν => q_CM ν b (gainM v i j l p) ∧ Md [2104, 65] μ ν) := by
  obtain ⟨⟨m1, m2, m3, m4⟩, p1, p2, p3, p4, p5⟩ := hM.2 i hi
  unfold F_X1_gain
  rw [wp_bn, wp_gP, show mP μ (64 * 1 + 0) (mr μ b i) = some (mr μ b i + 1) from m2]
  refine ⟨m1, ?_⟩
  rw [wp_bn, wp_lI, m4, inA_i3 (by omega), i3_toNat (by omega), p5 j hj]
  refine ⟨m3, hj, ?_⟩
  rw [wp_bn, wp_stI, m4, inA_i3 (by omega), i3_toNat (by omega)]
  refine ⟨m3, hj, ?_⟩
  rw [wp_bn, wp_gL]
  refine ⟨m1, ?_⟩
  rw [wp_bn, wp_wL, wp_rt]
  refine ⟨m1, ?_⟩
  rw [show mL (tI μ 104 (mr μ b i + 1) j (vPs v i j + l)) (64 * 1 + 1) (mr μ b i) = vCs v i from p4]
  have hm1 : Md [2104] μ (tI μ 104 (mr μ b i + 1) j (vPs v i j + l)) := Md.tI (k := 104) (show mK μ (mr μ b i + 1) ≠ 0 by rw [m3]; omega)
  have hm2 : Md [65] (tI μ 104 (mr μ b i + 1) j (vPs v i j + l)) (sL (tI μ 104 (mr μ b i + 1) j (vPs v i j + l)) 65 (mr μ b i) (vCs v i + l.toInt64 * p.toInt64)) := Md.sL (show mK μ (mr μ b i) ≠ 0 by rw [m1]; omega)
  have hm := hm1.tr hm2
  refine ⟨?_, hm.wk rfl⟩
  obtain ⟨ν, eν⟩ : ∃ ν, ν = sL (tI μ 104 (mr μ b i + 1) j (vPs v i j + l)) 65 (mr μ b i) (vCs v i + l.toInt64 * p.toInt64) := ⟨_, rfl⟩
  show q_CM (sL (tI μ 104 (mr μ b i + 1) j (vPs v i j + l)) 65 (mr μ b i) (vCs v i + l.toInt64 * p.toInt64)) b _
  rw [← eν] at hm ⊢
  have hl := (hm.wf hW rfl).2
  have el : ∀ k, mr ν b k = mr μ b k := fun k => by unfold mr; rw [hl]
  refine ⟨by rw [hl]; exact hM.1, fun k hk => ?_⟩
  have hk : k < vN v := hk
  obtain ⟨mo, q1, q2, q3, q_q4, q5⟩ := hM.2 k hk
  have hne : k ≠ i → mr μ b k ≠ mr μ b i := fun z q => z (hW.inj (hK.k 33 14 (by decide)) (by rw [hM.1]; exact hk) (by rw [hM.1]; exact hi) q)
  rw [el]
  refine ⟨by rw [eν]; exact mo, ?_, by rw [hm.1.i 67 rfl]; exact q2, by rw [hm.1.i 68 rfl]; exact q3, ?_, fun a ha => ?_⟩
  · rw [eν, mL_sL', if_neg (by omega)]; exact q1
  · show _ = q_upd (vCs v) i _ k
    unfold q_upd
    rw [eν, mL_sL']
    by_cases e : k = i
    · rw [if_pos e, if_pos ⟨rfl, by rw [e]⟩]
    · rw [if_neg e, if_neg (fun z => hne e z.2)]; exact q_q4
  · show _ = updP (vPs v) i j _ k a
    unfold updP
    rw [eν, aI_sL, aI_tI']
    by_cases e : k = i ∧ a = j
    · rw [if_pos e, if_pos ⟨rfl, by rw [e.1], e.2⟩]
    · rw [if_neg e, if_neg]
      · exact q5 a ha
      · rintro ⟨_, z1, z2⟩
        apply e
        refine ⟨?_, z2⟩
        apply Classical.byContradiction
        intro w
        exact hne w (by omega)
theorem more_eq {x l : Int32} (hx : -2000000000 ≤ x.toInt ∧ x.toInt ≤ 2000000000) (hl : 1 ≤ l.toInt ∧ l.toInt ≤ 50) : (l ≤ (if (if (0 : Int32) < - x then - x else 0) < l then (if (0 : Int32) < - x then - x else 0) else l) ↔ l + (if x < 0 then x else 0) ≤ 0) ∧ (¬ l + (if x < 0 then x else 0) ≤ 0 → l - (if (if (0 : Int32) < - x then - x else 0) < l then (if (0 : Int32) < - x then - x else 0) else l) = l + (if x < 0 then x else 0)) := by
  have z0 : (0 : Int32).toInt = 0 := rfl
  have hn := neg_bd (x := x) (by omega)
  by_cases h : x < 0
  · have h' : (0 : Int32) < - x := by rw [Int32.lt_iff_toInt_lt] at h ⊢; omega
    rw [if_pos h, if_pos h']
    rw [Int32.lt_iff_toInt_lt, z0] at h
    have es : (l + x).toInt = l.toInt + x.toInt := by rw [Int32.toInt_add, Int.bmod_eq_of_le] <;> omega
    by_cases h2 : - x < l
    · rw [if_pos h2]
      rw [Int32.lt_iff_toInt_lt] at h2
      refine ⟨?_, fun _ => ?_⟩
      · rw [Int32.le_iff_toInt_le, Int32.le_iff_toInt_le, es, z0]; omega
      · rw [Int32.sub_eq_add_neg]; simp
    · rw [if_neg h2]
      rw [Int32.lt_iff_toInt_lt] at h2
      refine ⟨?_, fun z => ?_⟩
      · rw [Int32.le_iff_toInt_le, Int32.le_iff_toInt_le, es, z0]; omega
      · rw [Int32.le_iff_toInt_le, es, z0] at z; omega
  · have h' : ¬ (0 : Int32) < - x := by rw [Int32.lt_iff_toInt_lt] at h ⊢; omega
    rw [if_neg h, if_neg h']
    have h2 : (0 : Int32) < l := by rw [Int32.lt_iff_toInt_lt, z0]; omega
    rw [if_pos h2]
    have e0 : l + 0 = l := by simp
    have e1 : l - 0 = l := by simp
    rw [e0, e1]
    exact ⟨by rw [Int32.le_iff_toInt_le], fun _ => rfl⟩
theorem q_CO.keep {μ ρ : Mem} {b j : Nat} {v : q_VO} {S : List Nat} {x y : Nat} (hK : K0 μ b) (hW : WF μ) (hO : q_CO μ b v) (hj : j < 6) (hC : Cs S [12 + 4 * j] x y b μ ρ) (hS : disj [713] S = true) (hf : ∀ r, mK μ r = 10 → r ∉ q_lst μ (b + (12 + 4 * j)) → mI ρ 576 r = mI μ 576 r ∧ mI ρ 577 r = mI μ 577 r ∧ mI ρ 578 r = mI μ 578 r ∧ mI ρ 579 r = mI μ 579 r) : q_CO ρ b v := by
  refine hO.fr' (fun i hi s => hC.2.2.1 _ (sdO_lo hi s) ?_) (fun a ha => hC.2.1.k rfl ha) (fun i hi s r hr => ?_) (by rw [hC.2.1.i 713 (disj_nc hS (by decide))])
  · have : sdO i s = 11 + 4 * i ∨ sdO i s = 10 + 4 * i := by unfold sdO; split; exact Or.inl rfl; exact Or.inr rfl
    simp; omega
  · have hk : mK μ r = 10 := by
      by_cases hs : s = 0
      · subst hs; exact ((hO.2.2.2.2 i hi 0 (Or.inl rfl)).1 r hr).1
      · have e : sdO i s = sdO i 1 := by unfold sdO; rw [if_neg hs, if_neg (by decide)]
        rw [e] at hr; exact ((hO.2.2.2.2 i hi 1 (Or.inr rfl)).1 r hr).1
    refine hf r hk fun z => ?_
    have := hW.2.2.2.2.1 _ _ (hK.lo (sdO_lo hi s)) (hK.mo hj).2.2.2.2.2.2 r hr z
    have : sdO i s = 11 + 4 * i ∨ sdO i s = 10 + 4 * i := by unfold sdO; split; exact Or.inl rfl; exact Or.inr rfl
    omega
theorem c_exchange {μ : Mem} {b bi si j : Nat} {vm : q_VM} {vl : VL} {vo : q_VO} {lots p : Int32} (hK : K0 μ b) (hW : WF μ) (hM : q_CM μ b vm) (hL : q_CL μ b vl) (hO : q_CO μ b vo) (hn : vN vm ≤ 12) (hb : bi < vN vm) (hs : si < vN vm) (hj : j < 6) (hl : 1 ≤ lots.toInt ∧ lots.toInt ≤ 50) (hbd : ∀ i, i < 12 → ∀ k, k < 6 → -2000000000 ≤ (vPs vm i k).toInt ∧ (vPs vm i k).toInt ≤ 2000000000) (hlen : (vl.1 j).length ≤ 2000) (hp : ∀ q, q ∈ vl.1 j → 0 < q.2.toInt) :
    q_wp (F_X11_exchange b (q_i3 bi) (q_i3 si) (q_i3 j) lots p) μ (fun _ ρ => q_CM ρ b (mvM vm bi si j lots p) ∧ q_CL ρ b (mvG vm vl.1 bi si j lots, vl.2) ∧ q_CO ρ b vo ∧ Cs [579, 832, 833, 834, 2372, 576, 577, 578, 2104, 65] [12 + 4 * j] 2 (3 * ((vl.1 j).length + 1) / 2 + 14) b μ ρ) := by
  unfold F_X11_exchange
  have rb : q_inR (q_i3 bi) (vN vm) := i3_inR hb (by omega)
  have rs : q_inR (q_i3 si) (vN vm) := i3_inR hs (by omega)
  rw [wp_bn, xpR11 hK, wp_bn, wp_eq (c_memberOf hK hW hM _), if_pos rb, wp_bn, xpR11 hK, wp_bn, wp_eq (c_memberOf hK hW hM _), if_pos rs, i3_toNat (by omega), i3_toNat (by omega), wp_ite, if_neg (by simp), wp_ite, if_neg (by simp), wp_ite]
  by_cases he : bi = si
  · rw [if_neg (by rw [he]; simp), wp_rt]
    unfold mvM mvG; rw [if_pos he, if_pos he]
    exact ⟨hM, hL, hO, (Cs.rf hW).wk rfl rfl (by omega) (by omega)⟩
  rw [if_pos (fun z => he ((i3_eq (by omega) (by omega)).mp z)), wp_bn, xgP11_2 hK, wp_bn, xmo hK hj, wp_bn, xpR2 hK hj, wp_bn]
  refine q_wp_mono (c_takeLongs hK hW hL hj (by omega) hp (by omega)) ?_
  rintro _ μ1 ⟨hC1, hf1, hL1⟩
  have K1 := hC1.k0 hK rfl
  have W1 := hC1.1
  have M1 : q_CM μ1 b vm := hM.fr hC1.2.1 (hC1.2.2.1 33 (by decide) (by simp; omega)) rfl
  have emr : ∀ i, mr μ1 b i = mr μ b i := fun i => by unfold mr; rw [hC1.2.2.1 33 (by decide) (by simp; omega)]
  have O1 : q_CO μ1 b vo := hO.keep hK hW hj hC1 rfl fun r hr hnot => ⟨by rw [hC1.2.1.i 576 rfl], by rw [hC1.2.1.i 577 rfl], by rw [hC1.2.1.i 578 rfl], hf1 r hnot⟩
  have gains : ∀ ν vl' x y, K0 ν b → WF ν → q_CM ν b vm → (∀ i, mr ν b i = mr μ b i) → q_CL ν b vl' → q_CO ν b vo → Cs [579, 832, 833, 834, 2372, 576, 577, 578] [12 + 4 * j] x y b μ ν → x ≤ 2 → y ≤ 3 * ((vl.1 j).length + 1) / 2 + 14 → vl' = (mvG vm vl.1 bi si j lots, vl.2) → q_wp (F_X11_exchange_L96 (q_i3 j) lots p (some (mr μ b bi)) (some (mr μ b si))) ν (fun _ ρ => q_CM ρ b (mvM vm bi si j lots p) ∧ q_CL ρ b (mvG vm vl.1 bi si j lots, vl.2) ∧ q_CO ρ b vo ∧ Cs [579, 832, 833, 834, 2372, 576, 577, 578, 2104, 65] [12 + 4 * j] 2 (3 * ((vl.1 j).length + 1) / 2 + 14) b μ ρ) := by
    intro ν vl' x y Kν Wν Mν er Lν Oν Cν hx hy hv
    unfold F_X11_exchange_L96
    rw [← er bi, ← er si, wp_bn, wp_pRc]
    refine ⟨(Mν.2 bi hb).1.1, ?_⟩
    rw [wp_bn]
    refine q_wp_mono (c_gain Kν Wν Mν hb hj) ?_
    rintro _ ν1 ⟨G1, m1⟩
    have Kν1 := m1.k0 Kν
    obtain ⟨Wν1, ll1⟩ := m1.wf Wν rfl
    have er1 : mr ν b si = mr ν1 b si := by unfold mr; rw [ll1]
    rw [er1, wp_bn, wp_pRc]
    refine ⟨(G1.2 si hs).1.1, ?_⟩
    rw [wp_bn]
    refine q_wp_mono (c_gain Kν1 Wν1 G1 hs hj) ?_
    rintro _ ν2 ⟨G2, m2⟩
    rw [wp_rt]
    have hm := m1.tr m2
    have hCm := hm.cs (b := b) Wν rfl
    refine ⟨?_, ?_, ?_, ?_⟩
    · unfold mvM; rw [if_neg he]; exact G2
    · rw [← hv]; exact Lν.fr hCm.2.1 (fun i hi => hCm.2.2.1 _ (lgO_lo hi) (by simp)) rfl
    · exact Oν.fr hCm.2.1 (fun i hi s => hCm.2.2.1 _ (sdO_lo hi s) (by simp)) rfl
    · exact (Cν.tr hCm).wk rfl (by unfold subL; simp) (by omega) (by omega)
  obtain ⟨⟨m1, m2, m3, m4⟩, q1, q2, q3, q_q4, q5⟩ := M1.2 bi hb
  rw [← emr bi, wp_bn, wp_gP, show mP μ1 (64 * 1 + 0) (mr μ1 b bi) = some (mr μ1 b bi + 1) from m2]
  refine ⟨m1, ?_⟩
  rw [wp_bn, wp_lI, m4, inA_i3 (by omega), i3_toNat (by omega), q5 j hj]
  refine ⟨m3, hj, ?_⟩
  rw [emr bi]
  obtain ⟨mq1, mq2⟩ := more_eq (hbd bi (by omega) j hj) hl
  rw [wp_ite]
  have hG : mvG vm vl.1 bi si j lots = q_upd vl.1 j (mvL vm (vl.1 j) bi si j lots) := by unfold mvG; rw [if_neg he]
  by_cases hm : moreX vm bi j lots ≤ 0
  · rw [if_pos (mq1.mpr hm)]
    refine gains μ1 _ 0 0 K1 W1 M1 emr hL1 O1 (hC1.wk rfl (by unfold subL; simp) (by omega) (by omega)) (by omega) (by omega) ?_
    rw [hG]; unfold mvL; rw [if_pos hm, List.append_nil]
  · rw [if_neg (fun z => hm (mq1.mp z)), mq2 hm]
    obtain ⟨w, hw⟩ : ∃ w, w = moreX vm bi j lots := ⟨_, rfl⟩
    show q_wp (bn (gP 11 2 (some b)) fun v10 => bn (lP 157 v10 (q_i3 j)) fun v11 => bn (gP 2 2 v11) fun v12 => bn (newO 9 4) fun r13 => bn (pRc 9 r13) fun b14 => bn (F_X9_init b14 (q_i3 bi) (moreX vm bi j lots) 0 0) fun _ => bn (pRc 13 v12) fun b15 => bn (F_Jx4a65c_add_9ea2d b15 r13) fun v16 => F_X11_exchange_L96 (q_i3 j) lots p (some (mr μ b bi)) (some (mr μ b si))) μ1 _
    rw [← hw, wp_bn, xgP11_2 K1, wp_bn, xmo K1 hj, wp_bn, xgP2_2 K1 hj]
    have hz := W1.z
    rw [wp_bn, wp_newO hz, wp_bn, wp_pRc]
    obtain ⟨r, hr⟩ : ∃ r, r = mX μ1 := ⟨_, rfl⟩
    rw [← hr]
    have kr1 : mK (q_al (9 + 1) 0 4 μ1) r = 10 := by rw [mK_al, if_pos hr]
    refine ⟨kr1, ?_⟩
    have n1 := (Nw.rf W1).al 10 0 4 (by omega)
    unfold F_X9_init
    simp only [wp_bn, wp_wI, wp_rt, Nat.reduceMul, Nat.reduceAdd]
    refine ⟨kr1, kr1, kr1, kr1, ?_⟩
    have n2 := (((n1.sI (f := 576) (a := r) (v := q_i3 bi) (by show mK (q_al (9 + 1) 0 4 μ1) r ≠ 0; omega) (by omega)).sI (f := 579) (a := r) (v := w) (by show mK (q_al (9 + 1) 0 4 μ1) r ≠ 0; omega) (by omega)).sI (f := 577) (a := r) (v := 0) (by show mK (q_al (9 + 1) 0 4 μ1) r ≠ 0; omega) (by omega)).sI (f := 578) (a := r) (v := 0) (by show mK (q_al (9 + 1) 0 4 μ1) r ≠ 0; omega) (by omega)
    obtain ⟨μ3, e3⟩ : ∃ μ3, μ3 = sI (sI (sI (sI (q_al 10 0 4 μ1) 576 r (q_i3 bi)) 579 r w) 577 r 0) 578 r 0 := ⟨_, rfl⟩
    have f3 : q_Fr [576, 579, 577, 578] μ1 μ3 := by rw [e3]; exact (((((q_Fr.nw hz 10 0 4).tr (q_Fr.sI _ 576 r _)).tr (q_Fr.sI _ 579 r _)).tr (q_Fr.sI _ 577 r _)).tr (q_Fr.sI _ 578 r _)).wk rfl
    rw [← e3] at n2 ⊢
    have K3 : K0 μ3 b := K1.fr f3 rfl
    have kr3 : mK μ3 r = 10 := by rw [e3]; exact kr1
    obtain ⟨_, _, _, _, _, _, k12⟩ := K3.mo hj
    obtain ⟨_, _, _, _, _, _, k12'⟩ := K1.mo hj
    rw [xpL2_2 K3 hj]
    have l3 : q_lst μ3 (b + (12 + 4 * j)) = q_lst μ1 (b + (12 + 4 * j)) := by rw [n2.2.1]
    have hlen1 := hL1.len hj
    have htl := tk_len (q_i3 si) (vl.1 j) lots
    have hlen1' : (q_lst μ1 (b + (12 + 4 * j))).length ≤ (vl.1 j).length := by
      rw [hlen1]; show (q_upd vl.1 j _ j).length ≤ _; unfold q_upd; rw [if_pos rfl]; exact htl
    refine q_wp_mono (ls_add n2.1 k12 (by omega) (n2.nin W1 (by omega)) (by rw [l3]; omega)) ?_
    rintro _ μ4 ⟨_, u⟩
    have hC3 : Cs [576, 579, 577, 578] [] 1 4 b μ1 μ3 := n2.cs f3 (by rw [e3]; exact Nat.le_refl _) (by rw [e3]; exact Nat.le_refl _)
    have hC4 := u.cs K3
    have hC34 := hC3.tr hC4
    have K4 : K0 μ4 b := hC34.k0 K1 rfl
    rw [l3] at u
    have l4 : q_lst μ4 (b + (12 + 4 * j)) = q_lst μ1 (b + (12 + 4 * j)) ++ [r] := u.2.2.1
    have hne : ∀ a, mK μ1 a ≠ 0 → a ≠ r := fun a ha z => by have := hz.lt ha; omega
    have fld : ∀ a, mK μ1 a ≠ 0 → mI μ4 576 a = mI μ1 576 a ∧ mI μ4 577 a = mI μ1 577 a ∧ mI μ4 578 a = mI μ1 578 a ∧ mI μ4 579 a = mI μ1 579 a := by
      intro a ha
      have h1 := hne a ha
      have f4 := u.2.1
      rw [f4.i 576 rfl, f4.i 577 rfl, f4.i 578 rfl, f4.i 579 rfl, e3]
      simp [mI_sI', h1, mI_al]
    have O4 : q_CO μ4 b vo := O1.keep K1 W1 hj (hC34.wk (N := [12 + 4 * j]) (T := [576, 579, 577, 578, 832, 833, 834, 2372]) rfl (by unfold subL; simp) (Nat.le_refl _) (Nat.le_refl _)) rfl fun a ha _ => fld a (by omega)
    have M4 : q_CM μ4 b vm := M1.fr hC34.2.1 (hC34.2.2.1 33 (by decide) (by simp; omega)) rfl
    have emr4 : ∀ i, mr μ4 b i = mr μ b i := fun i => by rw [← emr i]; unfold mr; rw [hC34.2.2.1 33 (by decide) (by simp; omega)]
    refine gains μ4 (mvG vm vl.1 bi si j lots, vl.2) (0 + (1 + 1)) (0 + (4 + (3 * ((q_lst μ3 (b + (12 + 4 * j))).length + 1) / 2 + 10))) K4 u.1 M4 emr4 ?_ O4 ((hC1.tr hC34).wk rfl (by unfold subL; simp) (Nat.le_refl _) (Nat.le_refl _)) (by omega) (by rw [l3]; omega) rfl
    intro i hi
    obtain ⟨c1, c2, c3⟩ := hL1 i hi
    refine ⟨?_, ?_, by rw [hC34.2.1.i 131 rfl]; exact c3⟩
    · show _ = mvG vm vl.1 bi si j lots i
      rw [hG]
      by_cases e : i = j
      · subst e
        have c1 : (q_lst μ1 (b + (12 + 4 * i))).map (fun r => (mI μ1 576 r, mI μ1 579 r)) = tk (q_i3 si) lots (vl.1 i) := by
          rw [c1]; show q_upd vl.1 i _ i = _; unfold q_upd; rw [if_pos rfl]
        unfold q_upd mvL; rw [if_pos rfl, if_neg hm, l4, List.map_append, ← c1]
        congr 1
        · apply List.map_congr_left
          intro a ha
          have := fld a (by rw [c2 a ha]; omega)
          rw [this.1, this.2.2.2]
        · rw [List.map_singleton, ← hw]
          have f4 := u.2.1
          rw [f4.i 576 rfl, f4.i 579 rfl, e3]
          simp [mI_sI']
      · have c1 : (q_lst μ1 (b + (12 + 4 * i))).map (fun r => (mI μ1 576 r, mI μ1 579 r)) = vl.1 i := by
          rw [c1]; show q_upd vl.1 j _ i = _; unfold q_upd; rw [if_neg e]
        unfold q_upd; rw [if_neg e, hC34.2.2.1 _ (lgO_lo hi) (by simp; omega), ← c1]
        apply List.map_congr_left
        intro a ha
        have := fld a (by rw [c2 a ha]; omega)
        rw [this.1, this.2.2.2]
    · intro a ha
      by_cases e : i = j
      · subst e
        rw [l4] at ha
        rcases List.mem_append.mp ha with h | h
        · exact hC34.2.1.k (c2 a h) (by omega)
        · rw [List.mem_singleton.mp h]; exact u.2.1.k kr3 (by omega)
      · rw [hC34.2.2.1 _ (lgO_lo hi) (by simp; omega)] at ha
        exact hC34.2.1.k (c2 a ha) (by omega)
