def rowIs (μ : Mem) (b j : Nat) (P : List (Int32 × Int32)) : Prop := ∀ i, i < P.length → aI μ 248 (b + 50) (1600 * j + i) = (P.getD i (0, 0)).1 ∧ aI μ 256 (b + 51) (1600 * j + i) = (P.getD i (0, 0)).2
theorem getD_p1 {P : List (Int32 × Int32)} {q : Int32 × Int32} {i : Nat} (h : i < P.length) : (P ++ [q]).getD i (0, 0) = P.getD i (0, 0) := by
  simp only [List.getD_eq_getElem?_getD, List.getElem?_append_left h]
theorem getD_p2 {P : List (Int32 × Int32)} {q : Int32 × Int32} : (P ++ [q]).getD P.length (0, 0) = q := by
  simp [List.getD_eq_getElem?_getD]
theorem row_put {μ : Mem} {b j : Nat} {P : List (Int32 × Int32)} {q : Int32 × Int32} (h : rowIs μ b j P) : rowIs (tI (tI μ 248 (b + 50) (1600 * j + P.length) q.1) 256 (b + 51) (1600 * j + P.length) q.2) b j (P ++ [q]) := by
  intro i hi
  rw [List.length_append, List.length_singleton] at hi
  simp only [aI_tI', show ¬ (248 : Nat) = 256 by omega, show ¬ (256 : Nat) = 248 by omega, false_and, if_false, true_and]
  by_cases e : i = P.length
  · rw [e, getD_p2]; simp
  · rw [getD_p1 (by omega), if_neg (by omega), if_neg (by omega)]
    exact h i (by omega)
theorem r_take {b bi si j len : Nat} {lots p : Int32} {μ : Mem} {Q : Unit → Mem → Prop} (hK : K0 μ b) (hj : j < 6) (hlen : len ≤ 1599) (hcnt : aI μ 264 (b + 52) j = q_i3 len)
    (hend : ∀ (P : List (Int32 × Int32)) (ν : Mem), P.length ≤ len → Md [2248, 2256] μ ν → rowIs ν b j P → (∀ i, ¬ (1600 * j ≤ i ∧ i < 1600 * j + len) → aI ν 248 (b + 50) i = aI μ 248 (b + 50) i ∧ aI ν 256 (b + 51) i = aI μ 256 (b + 51) i) → P = tk (q_i3 si) lots ((List.range len).map fun i => (aI μ 248 (b + 50) (1600 * j + i), aI μ 256 (b + 51) (1600 * j + i))) → q_wp (bn (gP 12 14 (some (b + 38))) fun v3 => bn (lI 232 v3 (((6 : Int32) * q_i3 bi) + q_i3 j)) fun v4 => if 0 ≤ v4 then F_X12_move_L179 (b + 38) (q_i3 bi) (q_i3 j) p lots (q_i3 (1600 * j)) (q_i3 P.length) (((6 : Int32) * q_i3 bi) + q_i3 j) (((6 : Int32) * q_i3 si) + q_i3 j) (0 : Int32) lots else bn (gP 12 14 (some (b + 38))) fun v5 => bn (lI 232 v5 (((6 : Int32) * q_i3 bi) + q_i3 j)) fun v6 => F_X12_move_L179 (b + 38) (q_i3 bi) (q_i3 j) p lots (q_i3 (1600 * j)) (q_i3 P.length) (((6 : Int32) * q_i3 bi) + q_i3 j) (((6 : Int32) * q_i3 si) + q_i3 j) v6 lots) ν Q) :
    ∀ (R P : List (Int32 × Int32)) (ν : Mem) (left : Int32) (k f : Nat), k + R.length = len → P.length ≤ k → R.length < f → 0 ≤ left.toInt → Md [2248, 2256] μ ν → rowIs ν b j P → (∀ i, i < R.length → aI ν 248 (b + 50) (1600 * j + (k + i)) = (R.getD i (0, 0)).1 ∧ aI ν 256 (b + 51) (1600 * j + (k + i)) = (R.getD i (0, 0)).2) → (∀ q, q ∈ R → 0 < q.2.toInt) → (∀ i, ¬ (1600 * j ≤ i ∧ i < 1600 * j + len) → aI ν 248 (b + 50) i = aI μ 248 (b + 50) i ∧ aI ν 256 (b + 51) i = aI μ 256 (b + 51) i) →
      P ++ tk (q_i3 si) left R = tk (q_i3 si) lots ((List.range len).map fun i => (aI μ 248 (b + 50) (1600 * j + i), aI μ 256 (b + 51) (1600 * j + i))) →
      q_wp (F_X12_move_L23 f (b + 38) (q_i3 bi) (q_i3 si) (q_i3 j) p lots (q_i3 (1600 * j)) left (q_i3 P.length) (q_i3 k)) ν Q := by
  intro R
  induction R with
  | nil =>
    intro P ν left k f hk hP hf h0 hm hrow hR hpos hout htk
    obtain ⟨f, rfl⟩ : ∃ g, f = g + 1 := ⟨f - 1, by simp at hf; omega⟩
    have hk : k = len := by simpa using hk
    unfold F_X12_move_L23
    have K1 := hm.k0 hK
    rw [wp_bn, xgP12_18 K1, wp_bn, xl264 K1, i3_toNat (by omega), hm.1.ai 264 rfl, hcnt]
    refine ⟨inA_of (by omega) hj, ?_⟩
    rw [wp_ite, if_pos ((i3_le (by omega) (by omega)).mpr (by omega))]
    exact hend P ν (by omega) hm hrow hout (by rw [← htk]; show P = P ++ []; rw [List.append_nil])
  | cons q R ih =>
    intro P ν left k f hk hP hf h0 hm hrow hR hpos hout htk
    obtain ⟨f, rfl⟩ : ∃ g, f = g + 1 := ⟨f - 1, by omega⟩
    rw [List.length_cons] at hk hf
    unfold F_X12_move_L23
    have K1 := hm.k0 hK
    obtain ⟨a1, a2⟩ := hR 0 (by simp)
    have a1 : aI ν 248 (b + 50) (1600 * j + k) = q.1 := by simpa using a1
    have a2 : aI ν 256 (b + 51) (1600 * j + k) = q.2 := by simpa using a2
    rw [wp_bn, xgP12_18 K1, wp_bn, xl264 K1, i3_toNat (by omega), hm.1.ai 264 rfl, hcnt]
    refine ⟨inA_of (by omega) hj, ?_⟩
    have b1 : 1600 * j + k < 9600 := by omega
    rw [wp_ite, if_neg (fun z => by have := (i3_le (by omega) (by omega)).mp z; omega)]
    simp (maxSteps := 2000000) (disch := first | assumption | omega | (simp only [K0_sI, K0_sL, K0_tI, K0_tL, K0_nE]; assumption)) only [wp_bn, xgI11, xgL11, xwI11, xpR11, xgI4, xgL4, xwI4, xpR4, xgI7, xgL7, xwI7, xpR7, xgI12, xgL12, xwI12, xpR12, xgP11_0, xgP11_1, xgP11_2, xgP11_3, xgP11_4, xgP11_5, xgP11_6, xgP11_7, xgP4_0, xl115, xs115, xgP4_9, xl120, xs120, xgP7_0, xgP7_1, xl136, xs136, xgP7_2, xl144, xs144, xgP12_0, xl160, xs160, xgP12_4, xl168, xs168, xgP12_5, xl176, xs176, xgP12_6, xl184, xs184, xgP12_7, xl192, xs192, xgP12_8, xl200, xs200, xgP12_11, xl209, xs209, xgP12_12, xl218, xs218, xgP12_13, xl226, xs226, xgP12_14, xl232, xs232, xgP12_15, xl241, xs241, xgP12_16, xl248, xs248, xgP12_17, xl256, xs256, xgP12_18, xl264, xs264, xgP12_19, xl274, xs274, xgP12_20, xl280, xs280, xgP12_22, xl288, xs288, xgP12_25, xl296, xs296, xgP12_26, xl305, xs305, xgP12_27, xl312, xs312, xgP12_28, xl321, xs321, xgP12_29, xl328, xs328, xgP12_31, xl336, xs336, xgP12_33, xl344, xs344, xgP12_46, xl352, xs352, xgP12_47, xl360, xs360, xgP2_0, xpL2_0, xgP2_1, xpL2_1, xgP2_2, xpL2_2, xgI2, xwZ2, xpR2, xmo, xpL_5, xpL_33, xpL_34, xpL_35, xpL_36, xpL_37, i3m2, i3m4, i3m5, i3m6, i3m7, i3m12, i3m60, i3m72, i3m1600, i3r6, i3p1, i3p2, i3p3, i3p4, i3p5, i3p6, i3p7, i3p8, i3p9, i3p20, i3_add, i3_mul, i3_toNat, inA_i3, i3_lt, i3_le, i3_eq, b1, true_and, a1, a2]
    have z0 : (0 : Int32).toInt = 0 := rfl
    have hq := hpos q (by simp)
    have hposR : ∀ q, q ∈ R → 0 < q.2.toInt := fun x hx => hpos x (List.mem_cons_of_mem _ hx)
    have go : ∀ (left' n : Int32), 0 ≤ left'.toInt → tk (q_i3 si) left (q :: R) = (if n = 0 then tk (q_i3 si) left' R else (q.1, n) :: tk (q_i3 si) left' R) → q_wp (F_X12_move_L99 (F_X12_move_L23 f) (b + 38) (q_i3 bi) (q_i3 si) (q_i3 j) p lots (q_i3 (1600 * j)) left' (q_i3 P.length) (q_i3 k) q.1 n) ν Q := by
      intro left' n hl' ht
      unfold F_X12_move_L99 F_X12_move_L134
      rw [wp_ite]
      by_cases hn : n = 0
      · rw [if_neg (fun z => z hn), i3_1]
        rw [if_pos hn] at ht
        exact ih P ν left' (k + 1) f (by omega) (by omega) (by omega) hl' hm hrow (fun i hi => by have := hR (i + 1) (by simp; omega); rw [show k + 1 + i = k + (i + 1) by omega]; simpa using this) hposR hout (by rw [← htk, ht])
      · rw [if_pos hn]
        rw [if_neg hn] at ht
        have b2 : 1600 * j + P.length < 9600 := by omega
        simp (maxSteps := 2000000) (disch := first | assumption | omega | (simp only [K0_sI, K0_sL, K0_tI, K0_tL, K0_nE]; assumption)) only [wp_bn, xgI11, xgL11, xwI11, xpR11, xgI4, xgL4, xwI4, xpR4, xgI7, xgL7, xwI7, xpR7, xgI12, xgL12, xwI12, xpR12, xgP11_0, xgP11_1, xgP11_2, xgP11_3, xgP11_4, xgP11_5, xgP11_6, xgP11_7, xgP4_0, xl115, xs115, xgP4_9, xl120, xs120, xgP7_0, xgP7_1, xl136, xs136, xgP7_2, xl144, xs144, xgP12_0, xl160, xs160, xgP12_4, xl168, xs168, xgP12_5, xl176, xs176, xgP12_6, xl184, xs184, xgP12_7, xl192, xs192, xgP12_8, xl200, xs200, xgP12_11, xl209, xs209, xgP12_12, xl218, xs218, xgP12_13, xl226, xs226, xgP12_14, xl232, xs232, xgP12_15, xl241, xs241, xgP12_16, xl248, xs248, xgP12_17, xl256, xs256, xgP12_18, xl264, xs264, xgP12_19, xl274, xs274, xgP12_20, xl280, xs280, xgP12_22, xl288, xs288, xgP12_25, xl296, xs296, xgP12_26, xl305, xs305, xgP12_27, xl312, xs312, xgP12_28, xl321, xs321, xgP12_29, xl328, xs328, xgP12_31, xl336, xs336, xgP12_33, xl344, xs344, xgP12_46, xl352, xs352, xgP12_47, xl360, xs360, xgP2_0, xpL2_0, xgP2_1, xpL2_1, xgP2_2, xpL2_2, xgI2, xwZ2, xpR2, xmo, xpL_5, xpL_33, xpL_34, xpL_35, xpL_36, xpL_37, i3m2, i3m4, i3m5, i3m6, i3m7, i3m12, i3m60, i3m72, i3m1600, i3r6, i3p1, i3p2, i3p3, i3p4, i3p5, i3p6, i3p7, i3p8, i3p9, i3p20, i3_add, i3_mul, i3_toNat, inA_i3, i3_lt, i3_le, i3_eq, b2, true_and]
        have hlenP : (P ++ [(q.1, n)]).length = P.length + 1 := by simp
        have k50 := kr K1 50 247 (by decide)
        have k51 := kr K1 51 255 (by decide)
        have hm2 : Md [2248, 2256] μ (tI (tI ν 248 (b + 50) (1600 * j + P.length) q.1) 256 (b + 51) (1600 * j + P.length) n) := ((hm.tr (Md.tI (k := 248) k50)).tr (Md.tI (k := 256) k51)).wk rfl
        rw [← hlenP]
        refine ih (P ++ [(q.1, n)]) _ left' (k + 1) f (by omega) (by omega) (by omega) hl' hm2 (row_put hrow) (fun i hi => ?_) hposR (fun i hi => ?_) (by rw [← htk, ht, List.append_assoc]; rfl)
        · have := hR (i + 1) (by simp; omega)
          rw [show k + 1 + i = k + (i + 1) by omega]
          simp only [aI_tI', show ¬ (248 : Nat) = 256 by omega, show ¬ (256 : Nat) = 248 by omega, false_and, if_false, true_and]
          rw [if_neg (by omega), if_neg (by omega)]
          simpa using this
        · simp only [aI_tI', show ¬ (248 : Nat) = 256 by omega, show ¬ (256 : Nat) = 248 by omega, false_and, if_false, true_and]
          rw [if_neg (by omega), if_neg (by omega)]
          exact hout i hi
    have stay : (¬ (q.1 = q_i3 si ∧ 0 < left)) → q_wp (F_X12_move_L99 (F_X12_move_L23 f) (b + 38) (q_i3 bi) (q_i3 si) (q_i3 j) p lots (q_i3 (1600 * j)) left (q_i3 P.length) (q_i3 k) q.1 q.2) ν Q := by
      intro hn
      refine go left q.2 h0 ?_
      show (if q.1 = q_i3 si ∧ 0 < left then _ else _) = _
      rw [if_neg hn, if_neg (fun z => by rw [z, z0] at hq; omega)]
    rw [wp_ite]
    by_cases e1 : q.1 = q_i3 si
    · rw [if_neg (fun z => z e1), wp_ite]
      by_cases e2 : left ≤ 0
      · rw [if_pos e2]
        exact stay fun z => by have := z.2; rw [Int32.lt_iff_toInt_lt] at this; rw [Int32.le_iff_toInt_le] at e2; omega
      · rw [if_neg e2, wp_ite]
        rw [Int32.le_iff_toInt_le, z0] at e2
        have hlt : 0 < left := by rw [Int32.lt_iff_toInt_lt, z0]; omega
        have htk' : tk (q_i3 si) left (q :: R) = (if q.2 - (if q.2 < left then q.2 else left) = 0 then tk (q_i3 si) (left - (if q.2 < left then q.2 else left)) R else (q.1, q.2 - (if q.2 < left then q.2 else left)) :: tk (q_i3 si) (left - (if q.2 < left then q.2 else left)) R) := by
          show (if q.1 = q_i3 si ∧ 0 < left then _ else _) = _
          rw [if_pos ⟨e1, hlt⟩]
        unfold F_X12_move_L83
        by_cases e3 : left ≤ q.2
        · rw [if_pos e3]
          have e4 : ¬ q.2 < left := by rw [Int32.lt_iff_toInt_lt]; rw [Int32.le_iff_toInt_le] at e3; omega
          rw [if_neg e4] at htk'
          exact go (left - left) (q.2 - left) (by simp) htk'
        · rw [if_neg e3]
          rw [Int32.le_iff_toInt_le] at e3
          have e4 : q.2 < left := by rw [Int32.lt_iff_toInt_lt]; omega
          rw [if_pos e4] at htk'
          refine go (left - q.2) (q.2 - q.2) ?_ htk'
          have := left.toInt_lt
          rw [Int32.toInt_sub, Int.bmod_eq_of_le] <;> omega
    · rw [if_pos e1]; exact stay fun z => e1 z.1
theorem neg_i64 {l : Int32} (h : 1 ≤ l.toInt ∧ l.toInt ≤ 50) : (-l).toInt64 = - l.toInt64 := by
  apply Int64.toInt_inj.mp
  rw [Int32.toInt_toInt64, neg_bd (by omega), Int64.toInt_neg, Int32.toInt_toInt64, Int.bmod_eq_of_le] <;> omega
theorem sm6_upd {f : Nat → Int64} {j : Nat} {x : Int64} (hj : j < 6) : sm6 (fun k => if k = j then f k + x else f k) = sm6 f + x := by
  unfold sm6
  rcases (show j = 0 ∨ j = 1 ∨ j = 2 ∨ j = 3 ∨ j = 4 ∨ j = 5 by omega) with rfl | rfl | rfl | rfl | rfl | rfl <;> simp <;> grind
theorem sm6_congr {f g : Nat → Int64} (h : ∀ k, k < 6 → f k = g k) : sm6 f = sm6 g := by
  unfold sm6; rw [h 0 (by omega), h 1 (by omega), h 2 (by omega), h 3 (by omega), h 4 (by omega), h 5 (by omega)]
theorem r_move {μ : Mem} {b bi si j nt c : Nat} {vm : q_VM} {vl : VL} {lots p : Int32} (hK : K0 μ b) (hM : q_RM μ b vm) (hL : q_RL μ b vl) (hb : bi < 12) (hs : si < 12) (hj : j < 6) (hl : 1 ≤ lots.toInt ∧ lots.toInt ≤ 50) (hlen6 : ∀ i, i < 6 → (vl.1 i).length ≤ 1500) (hp : ∀ q, q ∈ vl.1 j → 0 < q.2.toInt) :
    q_wp (F_X12_move (b + 38) (q_i3 bi) (q_i3 si) (q_i3 j) p lots) μ (fun _ ρ => q_RM ρ b (mvM vm bi si j lots p) ∧ q_RL ρ b (mvG vm vl.1 bi si j lots, vl.2) ∧ Md [2248, 2256, 2264, 2232, 2241] μ ρ) := by
  unfold F_X12_move
  rw [wp_ite]
  by_cases he : bi = si
  · rw [if_neg (by rw [he]; simp), wp_rt]
    unfold mvM mvG; rw [if_pos he, if_pos he]
    exact ⟨hM, hL, (Md.rf μ).wk rfl⟩
  rw [if_pos (fun z => he ((i3_eq (by omega) (by omega)).mp z)), i3m1600]
  have hlen := hlen6 j hj
  obtain ⟨g1, g2, g3⟩ := hL j hj
  have erow : ((List.range (vl.1 j).length).map fun i => (aI μ 248 (b + 50) (1600 * j + i), aI μ 256 (b + 51) (1600 * j + i))) = vl.1 j := by
    apply List.ext_getElem
    · simp
    · intro i h1 h2
      obtain ⟨q1, q2⟩ := g3 i h2
      simp only [List.getElem_map, List.getElem_range, q1, q2]
      rw [List.getD_eq_getElem?_getD, List.getElem?_eq_getElem h2]; rfl
  refine r_take (si := si) (bi := bi) (lots := lots) (p := p) (μ := μ) (len := (vl.1 j).length) hK hj (by omega) g1 ?_ (vl.1 j) [] μ lots 0 FU (by omega) (by simp) (by show _ < 100000; omega) (by omega) ((Md.rf μ).wk rfl) (fun i hi => by simp at hi) (fun i hi => by rw [Nat.zero_add]; exact g3 i hi) hp (fun i _ => ⟨rfl, rfl⟩) (by rw [erow]; rfl)
  intro P ν hPl hm hrow hout hP
  rw [erow] at hP
  have K1 := hm.k0 hK
  have M1 := hM.fr hm.1 rfl
  have b6 : 6 * bi + j < 72 := by omega
  have s6 : 6 * si + j < 72 := by omega
  have pb := (M1.2 bi hb).2.2.2.2 j hj
  have ps := (M1.2 si hs).2.2.2.2 j hj
  rw [wp_bn, xgP12_14 K1, i3m6, i3m6, i3_add, i3_add, wp_bn, xl232 K1, i3_toNat (by omega), pb]
  refine ⟨inA_of (by omega) b6, ?_⟩
  have hne6 : 6 * si + j ≠ 6 * bi + j := by omega
  have tail : ∀ (P' : List (Int32 × Int32)) (ρ : Mem), P'.length ≤ 1599 → Md [2248, 2256] μ ρ → rowIs ρ b j P' → (∀ i, ¬ (1600 * j ≤ i ∧ i < 1600 * j + 1600) → aI ρ 248 (b + 50) i = aI μ 248 (b + 50) i ∧ aI ρ 256 (b + 51) i = aI μ 256 (b + 51) i) → P' = mvL vm (vl.1 j) bi si j lots → q_wp (F_X12_move_L213 (b + 38) (q_i3 j) p lots (q_i3 P'.length) (q_i3 (6 * bi + j)) (q_i3 (6 * si + j))) ρ (fun _ ρ => q_RM ρ b (mvM vm bi si j lots p) ∧ q_RL ρ b (mvG vm vl.1 bi si j lots, vl.2) ∧ Md [2248, 2256, 2264, 2232, 2241] μ ρ) := by
    intro P' ρ hP'l hmρ hrow' hout' hP'
    have Kρ := hmρ.k0 hK
    have Mρ := hM.fr hmρ.1 rfl
    have pb := (Mρ.2 bi hb).2.2.2.2 j hj
    have ps := (Mρ.2 si hs).2.2.2.2 j hj
    unfold F_X12_move_L213
    simp (maxSteps := 2000000) (disch := first | assumption | omega | (simp only [K0_sI, K0_sL, K0_tI, K0_tL, K0_nE]; assumption)) only [wp_bn, xgI11, xgL11, xwI11, xpR11, xgI4, xgL4, xwI4, xpR4, xgI7, xgL7, xwI7, xpR7, xgI12, xgL12, xwI12, xpR12, xgP11_0, xgP11_1, xgP11_2, xgP11_3, xgP11_4, xgP11_5, xgP11_6, xgP11_7, xgP4_0, xl115, xs115, xgP4_9, xl120, xs120, xgP7_0, xgP7_1, xl136, xs136, xgP7_2, xl144, xs144, xgP12_0, xl160, xs160, xgP12_4, xl168, xs168, xgP12_5, xl176, xs176, xgP12_6, xl184, xs184, xgP12_7, xl192, xs192, xgP12_8, xl200, xs200, xgP12_11, xl209, xs209, xgP12_12, xl218, xs218, xgP12_13, xl226, xs226, xgP12_14, xl232, xs232, xgP12_15, xl241, xs241, xgP12_16, xl248, xs248, xgP12_17, xl256, xs256, xgP12_18, xl264, xs264, xgP12_19, xl274, xs274, xgP12_20, xl280, xs280, xgP12_22, xl288, xs288, xgP12_25, xl296, xs296, xgP12_26, xl305, xs305, xgP12_27, xl312, xs312, xgP12_28, xl321, xs321, xgP12_29, xl328, xs328, xgP12_31, xl336, xs336, xgP12_33, xl344, xs344, xgP12_46, xl352, xs352, xgP12_47, xl360, xs360, xgP2_0, xpL2_0, xgP2_1, xpL2_1, xgP2_2, xpL2_2, xgI2, xwZ2, xpR2, xmo, xpL_5, xpL_33, xpL_34, xpL_35, xpL_36, xpL_37, i3m2, i3m4, i3m5, i3m6, i3m7, i3m12, i3m60, i3m72, i3m1600, i3r6, i3p1, i3p2, i3p3, i3p4, i3p5, i3p6, i3p7, i3p8, i3p9, i3p20, i3_add, i3_mul, i3_toNat, inA_i3, i3_lt, i3_le, i3_eq, hj, b6, s6, true_and, wp_rt, mI_sI', mL_sL', mP_sP', aI_tI', aL_tL', aP_tP', mI_sL, mI_sP, mI_tI, mI_tL, mI_tP, mL_sI, mL_sP, mL_tI, mL_tL, mL_tP, mP_sI, mP_sL, mP_tI, mP_tL, mP_tP, aI_sI, aI_sL, aI_sP, aI_tL, aI_tP, aL_sI, aL_sL, aL_sP, aL_tI, aL_tP, aP_sI, aP_sL, aP_sP, aP_tI, aP_tL, mK_sI, mK_sL, mK_sP, mK_tI, mK_tL, mK_tP, mN_sI, mN_sL, mN_sP, mN_tI, mN_tL, mN_tP, mX_sI, mX_sL, mX_sP, mX_tI, mX_tL, mX_tP, mS_sI, mS_sL, mS_sP, mS_tI, mS_tL, mS_tP, mT_sI, mT_sL, mT_sP, mT_tI, mT_tL, mT_tP]
    have k52 := kr Kρ 52 263 (by decide)
    have k48 := kr Kρ 48 231 (by decide)
    have k49 := kr Kρ 49 240 (by decide)
    have ne1 : ¬ (264 : Nat) = 232 := by omega
    have ne2 : ¬ (232 : Nat) = 264 := by omega
    simp only [ne1, ne2, false_and, if_false, true_and, hne6, pb, ps]
    obtain ⟨X, eX⟩ : ∃ X, X = tL (tL (tI (tI (tI ρ 264 (b + 52) j (q_i3 P'.length)) 232 (b + 48) (6 * bi + j) (vPs vm bi j + lots)) 232 (b + 48) (6 * si + j) (vPs vm si j - lots)) 241 (b + 49) (6 * bi + j) (aL ρ 241 (b + 49) (6 * bi + j) + lots.toInt64 * p.toInt64)) 241 (b + 49) (6 * si + j) (aL ρ 241 (b + 49) (6 * si + j) - lots.toInt64 * p.toInt64) := ⟨_, rfl⟩
    rw [← eX]
    have hmX : Md [2264, 2232, 2241] ρ X := by
      rw [eX]
      exact (((((Md.tI (k := 264) k52).tr (Md.tI (k := 232) k48)).tr (Md.tI (k := 232) k48)).tr (Md.tL (k := 241) k49)).tr (Md.tL (k := 241) k49)).wk rfl
    have aX : ∀ i, aI X 232 (b + 48) i = if i = 6 * si + j then vPs vm si j - lots else if i = 6 * bi + j then vPs vm bi j + lots else aI ρ 232 (b + 48) i := by
      intro i; rw [eX]; simp only [aI_tL, aI_tI', ne2, false_and, if_false, true_and]
    have lX : ∀ i, aL X 241 (b + 49) i = if i = 6 * si + j then aL ρ 241 (b + 49) (6 * si + j) - lots.toInt64 * p.toInt64 else if i = 6 * bi + j then aL ρ 241 (b + 49) (6 * bi + j) + lots.toInt64 * p.toInt64 else aL ρ 241 (b + 49) i := by
      intro i; rw [eX]; simp only [aL_tL', aL_tI, true_and]
    have cX : ∀ i, aI X 264 (b + 52) i = if i = j then q_i3 P'.length else aI ρ 264 (b + 52) i := by
      intro i; rw [eX]; simp only [aI_tL, aI_tI', ne1, false_and, if_false, true_and]
    refine ⟨?_, ?_, (hmρ.tr hmX).wk rfl⟩
    · unfold mvM; rw [if_neg he]
      refine ⟨by rw [hmX.1.i 778 rfl]; exact Mρ.1, fun i hi => ?_⟩
      obtain ⟨q1, q2, q3, q_q4, q5⟩ := Mρ.2 i hi
      refine ⟨by rw [hmX.1.alg 209 rfl]; exact q1, by rw [hmX.1.ai 218 rfl]; exact q2, by rw [hmX.1.ai 226 rfl]; exact q3, ?_, fun k hk => ?_⟩
      · show _ = q_upd (q_upd (vCs vm) bi _) si (q_upd (vCs vm) bi _ si + (-lots).toInt64 * p.toInt64) i
        unfold q_upd
        rw [if_neg (show ¬ si = bi from fun z => he z.symm), neg_i64 hl]
        have row : ∀ i, i < 12 → sm6 (fun k => aL ρ 241 (b + 49) (6 * i + k)) = vCs vm i := fun i hi => (Mρ.2 i hi).2.2.2.1
        by_cases e1 : i = si
        · subst e1
          rw [if_pos rfl, ← row i hi]
          rw [sm6_congr (g := fun k => if k = j then aL ρ 241 (b + 49) (6 * i + k) + - (lots.toInt64 * p.toInt64) else aL ρ 241 (b + 49) (6 * i + k)) (fun k hk => ?_), sm6_upd (f := fun k => aL ρ 241 (b + 49) (6 * i + k)) hj]
          · grind
          · rw [lX]
            by_cases e : k = j
            · rw [if_pos (by rw [e]), if_pos e, e]; grind
            · rw [if_neg (by omega), if_neg e, if_neg (by omega)]
        · rw [if_neg e1]
          by_cases e2 : i = bi
          · subst e2
            rw [if_pos rfl, ← row i hi]
            rw [sm6_congr (g := fun k => if k = j then aL ρ 241 (b + 49) (6 * i + k) + lots.toInt64 * p.toInt64 else aL ρ 241 (b + 49) (6 * i + k)) (fun k hk => ?_), sm6_upd (f := fun k => aL ρ 241 (b + 49) (6 * i + k)) hj]
            rw [lX]
            by_cases e : k = j
            · rw [if_neg (by omega), if_pos (by rw [e]), if_pos e, e]
            · rw [if_neg (by omega), if_neg (by omega), if_neg e]
          · rw [if_neg e2, ← row i hi]
            refine sm6_congr fun k hk => ?_
            rw [lX, if_neg (by omega), if_neg (by omega)]
      · show _ = updP (updP (vPs vm) bi j _) si j (updP (vPs vm) bi j _ si j + - lots) i k
        unfold updP
        rw [aX, if_neg (show ¬ (si = bi ∧ j = j) from fun z => he z.1.symm)]
        by_cases e1 : i = si ∧ k = j
        · rw [if_pos (by rw [e1.1, e1.2]), if_pos e1, Int32.sub_eq_add_neg]
        · rw [if_neg e1, if_neg (by omega)]
          by_cases e2 : i = bi ∧ k = j
          · rw [if_pos (by rw [e2.1, e2.2]), if_pos e2]
          · rw [if_neg (by omega), if_neg e2]; exact q5 k hk
    · intro i hi
      obtain ⟨q1, q2, q3⟩ := hL i hi
      have hG : mvG vm vl.1 bi si j lots = q_upd vl.1 j (mvL vm (vl.1 j) bi si j lots) := by unfold mvG; rw [if_neg he]
      show aI X 264 (b + 52) i = q_i3 (mvG vm vl.1 bi si j lots i).length ∧ aI X 274 (b + 53) i = vl.2 i ∧ ∀ k, k < (mvG vm vl.1 bi si j lots i).length → aI X 248 (b + 50) (1600 * i + k) = ((mvG vm vl.1 bi si j lots i).getD k (0, 0)).1 ∧ aI X 256 (b + 51) (1600 * i + k) = ((mvG vm vl.1 bi si j lots i).getD k (0, 0)).2
      have hGi : mvG vm vl.1 bi si j lots i = if i = j then P' else vl.1 i := by rw [hG, hP']; rfl
      rw [hGi, cX, hmX.1.ai 274 rfl, hmρ.1.ai 274 rfl, hmX.1.ai 248 rfl, hmX.1.ai 256 rfl, hmρ.1.ai 264 rfl]
      by_cases e : i = j
      · subst e
        simp only [if_true]
        exact ⟨trivial, q2, hrow'⟩
      · simp only [if_neg e]
        refine ⟨q1, q2, fun k hk => ?_⟩
        have := hlen6 i hi
        obtain ⟨o1, o2⟩ := hout' (1600 * i + k) (by omega)
        rw [o1, o2]; exact q3 k hk
  have z0 : (0 : Int32).toInt = 0 := rfl
  have l179 : ∀ y0 : Int32, lots + y0 = moreX vm bi j lots → q_wp (F_X12_move_L179 (b + 38) (q_i3 bi) (q_i3 j) p lots (q_i3 (1600 * j)) (q_i3 P.length) (q_i3 (6 * bi + j)) (q_i3 (6 * si + j)) y0 lots) ν (fun _ ρ => q_RM ρ b (mvM vm bi si j lots p) ∧ q_RL ρ b (mvG vm vl.1 bi si j lots, vl.2) ∧ Md [2248, 2256, 2264, 2232, 2241] μ ρ) := by
    intro y0 hy
    unfold F_X12_move_L179
    rw [hy, wp_ite]
    by_cases hmo : moreX vm bi j lots ≤ 0
    · rw [if_pos hmo]
      refine tail P ν (by omega) hm hrow (fun i hi => hout i (by omega)) ?_
      unfold mvL; rw [if_pos hmo, hP, List.append_nil]
    · rw [if_neg hmo]
      have b2 : 1600 * j + P.length < 9600 := by omega
      simp (maxSteps := 2000000) (disch := first | assumption | omega | (simp only [K0_sI, K0_sL, K0_tI, K0_tL, K0_nE]; assumption)) only [wp_bn, xgI11, xgL11, xwI11, xpR11, xgI4, xgL4, xwI4, xpR4, xgI7, xgL7, xwI7, xpR7, xgI12, xgL12, xwI12, xpR12, xgP11_0, xgP11_1, xgP11_2, xgP11_3, xgP11_4, xgP11_5, xgP11_6, xgP11_7, xgP4_0, xl115, xs115, xgP4_9, xl120, xs120, xgP7_0, xgP7_1, xl136, xs136, xgP7_2, xl144, xs144, xgP12_0, xl160, xs160, xgP12_4, xl168, xs168, xgP12_5, xl176, xs176, xgP12_6, xl184, xs184, xgP12_7, xl192, xs192, xgP12_8, xl200, xs200, xgP12_11, xl209, xs209, xgP12_12, xl218, xs218, xgP12_13, xl226, xs226, xgP12_14, xl232, xs232, xgP12_15, xl241, xs241, xgP12_16, xl248, xs248, xgP12_17, xl256, xs256, xgP12_18, xl264, xs264, xgP12_19, xl274, xs274, xgP12_20, xl280, xs280, xgP12_22, xl288, xs288, xgP12_25, xl296, xs296, xgP12_26, xl305, xs305, xgP12_27, xl312, xs312, xgP12_28, xl321, xs321, xgP12_29, xl328, xs328, xgP12_31, xl336, xs336, xgP12_33, xl344, xs344, xgP12_46, xl352, xs352, xgP12_47, xl360, xs360, xgP2_0, xpL2_0, xgP2_1, xpL2_1, xgP2_2, xpL2_2, xgI2, xwZ2, xpR2, xmo, xpL_5, xpL_33, xpL_34, xpL_35, xpL_36, xpL_37, i3m2, i3m4, i3m5, i3m6, i3m7, i3m12, i3m60, i3m72, i3m1600, i3r6, i3p1, i3p2, i3p3, i3p4, i3p5, i3p6, i3p7, i3p8, i3p9, i3p20, i3_add, i3_mul, i3_toNat, inA_i3, i3_lt, i3_le, i3_eq, b2, true_and]
      have hlenP : (P ++ [(q_i3 bi, moreX vm bi j lots)]).length = P.length + 1 := by simp
      have k50 := kr K1 50 247 (by decide)
      have k51 := kr K1 51 255 (by decide)
      rw [← hlenP]
      refine tail (P ++ [(q_i3 bi, moreX vm bi j lots)]) _ (by omega) (((hm.tr (Md.tI (k := 248) k50)).tr (Md.tI (k := 256) k51)).wk rfl) (row_put hrow) (fun i hi => ?_) ?_
      · simp only [aI_tI', show ¬ (248 : Nat) = 256 by omega, show ¬ (256 : Nat) = 248 by omega, false_and, if_false, true_and]
        rw [if_neg (by omega), if_neg (by omega)]
        exact hout i (by omega)
      · unfold mvL; rw [if_neg hmo, hP]
  rw [wp_ite]
  by_cases hv : 0 ≤ vPs vm bi j
  · rw [if_pos hv]
    refine l179 0 ?_
    unfold moreX; rw [if_neg (by rw [Int32.lt_iff_toInt_lt]; rw [Int32.le_iff_toInt_le] at hv; omega)]
  · rw [if_neg hv, wp_bn, xgP12_14 K1, wp_bn, xl232 K1, i3_toNat (by omega), pb]
    refine ⟨inA_of (by omega) b6, l179 _ ?_⟩
    unfold moreX; rw [if_pos (by rw [Int32.lt_iff_toInt_lt]; rw [Int32.le_iff_toInt_le] at hv; omega)]

def q_nat (x : Int32) : Nat := x.toNatClampNeg
def q_mvS (s : q_St) (bi si j : Nat) (lots p : Int32) : q_St := wM (wG s (mvG (sM s) (sG s).1 bi si j lots, (sG s).2)) (mvM (sM s) bi si j lots p)
def okStrike (s : q_St) (t : Nat) : Bool := (sT s).2 t 6 == 0 && (sG s).2 (q_nat ((sT s).2 t 0)) == 0 && vFa (sM s) (q_nat ((sT s).2 t 3)) == 0 && vFa (sM s) (q_nat ((sT s).2 t 4)) == 0
def fStrike (s : q_St) (p : Int32) : Int32 × q_St := if q_inR p (sT s).1 ∧ okStrike s (q_nat p) = true then (1, q_mvS (wT s ((sT s).1, upd2 (sT s).2 (q_nat p) 6 1)) (q_nat ((sT s).2 (q_nat p) 4)) (q_nat ((sT s).2 (q_nat p) 3)) (q_nat ((sT s).2 (q_nat p) 0)) ((sT s).2 (q_nat p) 2) ((sT s).2 (q_nat p) 1)) else (0, s)
theorem c_inDefault {μ : Mem} {b i : Nat} {v : q_VM} (hK : K0 μ b) (hW : WF μ) (hM : q_CM μ b v) (hn : vN v ≤ 12) (hi : i < vN v) : F_X11_inDefault b (q_i3 i) μ = some (if vFa v i = 0 then 0 else 1, μ) := by
  apply eq_wp
  unfold F_X11_inDefault
  obtain ⟨⟨m1, m2, m3, m4⟩, p1, p2, p3, p4, p5⟩ := hM.2 i hi
  rw [wp_bn, xpR11 hK, wp_bn, wp_eq (c_memberOf hK hW hM _), if_pos (i3_inR hi (by omega)), i3_toNat (by omega), wp_ite, if_neg (by simp), wp_bn, wp_gI, show mI μ (64 * 1 + 4) (mr μ b i) = vFa v i from p3]
  refine ⟨m1, ?_⟩
  rw [wp_ite]
  by_cases h : vFa v i = 0
  · rw [if_pos h, wp_rz, if_pos h]; exact ⟨Or.inl rfl, rfl, rfl⟩
  · rw [if_neg h, wp_rz, if_neg h]; exact ⟨Or.inr rfl, rfl, rfl⟩
theorem trTag : ∀ u, u < 7 → (fun w => 640 + w) u = (fun w => 640 + w) 6 → u = 6 := fun u _ h => by have h : 640 + u = 640 + 6 := h; omega
theorem bd2 {v : q_VM} {c : Nat} (h : IM v c) (hc : c ≤ 600) : ∀ i, i < 12 → ∀ k, k < 6 → -2000000000 ≤ (vPs v i k).toInt ∧ (vPs v i k).toInt ≤ 2000000000 := fun i hi k hk => by have := h.2.2.2.1 i hi k hk; omega
theorem c_strike {μ : Mem} {b c : Nat} {s : q_St} (hK : K0 μ b) (hW : WF μ) (hA : q_AC μ b s) (hI : Iv s c) (hc : c ≤ 600) (p : Int32) : q_wp (F_X11_strike b p) μ (fun r ν => r = (fStrike s p).1 ∧ cOK μ b (fStrike s p).2 2 2000 ν) := by
  obtain ⟨hM, hL, hO, hT, hD, hR, hN, hU, hP⟩ := id hA
  have hn := hI.1.1
  have hIT := hI.2.2.2.1
  have hnt := hIT.1
  obtain ⟨F, eF⟩ : ∃ F, F = fStrike s p := ⟨_, rfl⟩
  rw [← eF]
  unfold fStrike q_nat at eF
  have no : ¬ (q_inR p (sT s).1 ∧ okStrike s p.toNatClampNeg = true) → ((0 : Int32) = 0 ∨ (0 : Int32) = 1) ∧ (0 : Int32) = F.1 ∧ cOK μ b F.2 2 2000 μ := by
    intro h; rw [if_neg h] at eF; rw [eF]; exact ⟨Or.inl rfl, rfl, cOK.rf hK hW hA⟩
  unfold F_X11_strike
  rw [wp_bn, xpR11 hK, wp_bn, wp_eq (c_tradeOf hK hW hT p), wp_ite]
  by_cases h : q_inR p (sT s).1
  rotate_left
  · rw [if_neg h, if_pos rfl, wp_rz]; exact no fun z => h z.1
  obtain ⟨t, ht, rfl⟩ := inR_i3 h
  rw [i3_toNat (by omega)] at eF no
  rw [if_pos h, if_neg (by simp), i3_toNat (by omega)]
  obtain ⟨g1, g2⟩ := hT.2 t ht
  obtain ⟨i0, i1, i1', i2, i2', i3', i4, i5, i6⟩ := hIT.2.1 t ht
  obtain ⟨r, hr⟩ : ∃ r, r = (q_lst μ (b + 34)).getD t 0 := ⟨_, rfl⟩
  rw [← hr] at g1 g2 ⊢
  have g1' : mK μ r = 10 + 1 := g1
  obtain ⟨j, hj, ej⟩ := inR_i3 i0
  obtain ⟨by', hby, eby⟩ := inR_i3 i3'
  obtain ⟨se, hse, ese⟩ := inR_i3 i4
  have h0 : mI μ (64 * 10 + 0) r = q_i3 j := by rw [← ej]; exact g2 0 (by omega)
  have h1 : mI μ (64 * 10 + 1) r = (sT s).2 t 1 := g2 1 (by omega)
  have h2 : mI μ (64 * 10 + 2) r = (sT s).2 t 2 := g2 2 (by omega)
  have h3 : mI μ (64 * 10 + 3) r = q_i3 by' := by rw [← eby]; exact g2 3 (by omega)
  have h4 : mI μ (64 * 10 + 4) r = q_i3 se := by rw [← ese]; exact g2 4 (by omega)
  have h6 : mI μ (64 * 10 + 6) r = (sT s).2 t 6 := g2 6 (by omega)
  have ok : okStrike s t = ((sT s).2 t 6 == 0 && (sG s).2 j == 0 && vFa (sM s) by' == 0 && vFa (sM s) se == 0) := by
    unfold okStrike q_nat; rw [ej, eby, ese, i3_toNat (by omega), i3_toNat (by omega), i3_toNat (by omega)]
  rw [ok] at eF no
  rw [wp_bn, wp_gI, h6]
  refine ⟨g1', ?_⟩
  rw [wp_ite]
  by_cases e6 : (sT s).2 t 6 = 0
  rotate_left
  · rw [if_pos e6, wp_rz]; exact no fun z => by have := z.2; simp only [Bool.and_eq_true, beq_iff_eq] at this; exact e6 this.1.1.1
  rw [if_neg (fun z => z e6), wp_bn, xgP11_2 hK, wp_bn, wp_gI, h0]
  refine ⟨g1', ?_⟩
  rw [wp_bn, xmo hK hj, wp_bn, xgI2 hK hj, show mI μ (64 * 2 + 3) (b + (9 + 4 * j)) = (sG s).2 j from (hL j hj).2.2, wp_ite]
  by_cases ec : (sG s).2 j = 0
  rotate_left
  · rw [if_pos ec, wp_rz]; exact no fun z => by have := z.2; simp only [Bool.and_eq_true, beq_iff_eq] at this; exact ec this.1.1.2
  rw [if_neg (fun z => z ec), wp_bn, wp_gI, h3]
  refine ⟨g1', ?_⟩
  rw [wp_bn, xpR11 hK, wp_bn, wp_eq (c_inDefault hK hW hM hn hby), wp_ite]
  by_cases eb : vFa (sM s) by' = 0
  rotate_left
  · rw [if_neg eb, if_pos (by decide), wp_rz]; exact no fun z => by have := z.2; simp only [Bool.and_eq_true, beq_iff_eq] at this; exact eb this.1.2
  rw [if_pos eb, if_neg (by decide), wp_bn, wp_gI, h4]
  refine ⟨g1', ?_⟩
  rw [wp_bn, xpR11 hK, wp_bn, wp_eq (c_inDefault hK hW hM hn hse), wp_ite]
  by_cases es : vFa (sM s) se = 0
  rotate_left
  · rw [if_neg es, if_neg (by decide), wp_rz]; exact no fun z => by have := z.2; simp only [Bool.and_eq_true, beq_iff_eq] at this; exact es this.2
  rw [if_pos es, if_pos rfl]
  rw [if_pos ⟨h, by simp [e6, ec, eb, es]⟩, ej, eby, ese, i3_toNat (by omega), i3_toNat (by omega), i3_toNat (by omega)] at eF
  rw [wp_bn, wp_wZ]
  refine ⟨g1', Or.inr rfl, ?_⟩
  obtain ⟨μ1, e1⟩ : ∃ μ1, μ1 = sI μ 646 r 1 := ⟨_, rfl⟩
  show q_wp _ (sI μ 646 r 1) _
  rw [← e1]
  have m1 : Md [646] μ μ1 := by rw [e1]; exact Md.sI (by omega)
  have hC1 := m1.cs (b := b) hW rfl
  have K1 := m1.k0 hK
  have W1 := hC1.1
  have kr1 : mK μ1 r = 10 + 1 := by rw [m1.2.2.1]; exact g1'
  have T1 : CT μ1 b ((sT s).1, upd2 (sT s).2 t 6 1) := by
    have := TX.set (x := 1) hW (hK.k 34 14 (by decide)) hT.tx ht (show 6 < 7 by omega) (by omega) trTag (by show 640 + 6 < 833; omega)
    rw [e1, hr]; exact this
  have M1 : q_CM μ1 b (sM s) := hM.fr hC1.2.1 (hC1.2.2.1 33 (by decide) (by decide)) rfl
  have L1 : q_CL μ1 b (sG s) := hL.fr hC1.2.1 (fun i hi => hC1.2.2.1 _ (lgO_lo hi) (by simp)) rfl
  have O1 : q_CO μ1 b (sO s) := hO.fr hC1.2.1 (fun i hi s => hC1.2.2.1 _ (sdO_lo hi s) (by simp)) rfl
  have fi : ∀ w, w < 6 → mI μ1 (64 * 10 + w) r = mI μ (64 * 10 + w) r := fun w hw => by rw [e1, mI_sI', if_neg (by omega)]
  rw [wp_bn, wp_gI, fi 4 (by omega), h4]
  refine ⟨kr1, ?_⟩
  rw [wp_bn, wp_gI, fi 3 (by omega), h3]
  refine ⟨kr1, ?_⟩
  rw [wp_bn, wp_gI, fi 0 (by omega), h0]
  refine ⟨kr1, ?_⟩
  rw [wp_bn, wp_gI, fi 2 (by omega), h2]
  refine ⟨kr1, ?_⟩
  rw [wp_bn, wp_gI, fi 1 (by omega), h1]
  refine ⟨kr1, ?_⟩
  rw [wp_bn, xpR11 K1, wp_bn]
  have hIL := hI.2.1 j hj
  refine q_wp_mono (c_exchange (p := (sT s).2 t 1) K1 W1 M1 L1 O1 hn hse hby hj ⟨i2, i2'⟩ (bd2 hI.1 hc) (by omega) (fun q hq => (hIL.2.1 q hq).2.1)) ?_
  rintro _ ρ ⟨M2, L2, O2, C2⟩
  rw [wp_rz]
  have hC := hC1.tr C2
  refine ⟨Or.inr rfl, by rw [eF], ?_⟩
  rw [eF]
  have nl : ∀ o, o ∈ q_LO → o ≠ 12 + 4 * j → q_lst ρ (b + o) = q_lst μ1 (b + o) := fun o ho hne => C2.2.2.1 o ho (by simpa using hne)
  have nl' : ∀ o, o ∈ q_LO → o ≠ 12 + 4 * j → q_lst ρ (b + o) = q_lst μ (b + o) := fun o ho hne => hC.2.2.1 o ho (by simpa using hne)
  refine cOK.of hK ⟨M2, L2, O2, T1.fr C2.2.1 (nl 34 (by decide) (by omega)) rfl, hD.fr hC.2.1 (nl' 37 (by decide) (by omega)) rfl, hR.fr hC.2.1 (nl' 35 (by decide) (by omega)) rfl, hN.fr hC.2.1 (nl' 36 (by decide) (by omega)) rfl, hU.fr hC.2.1 (nl' 5 (by decide) (by omega)) rfl, hP.fr hC.2.1 rfl⟩ hC rfl rfl (by omega) (by have := hIL.1; omega)
theorem r_strike {μ : Mem} {b c : Nat} {s : q_St} (hK : K0 μ b) (hA : q_AR μ b s) (hI : Iv s c) (hc : c ≤ 600) (p : Int32) : q_wp (F_X12_strike (b + 38) p) μ (fun r ν => r = (fStrike s p).1 ∧ rOK μ b (fStrike s p).2 0 ν) := by
  have hn := hI.1.1
  have hIT := hI.2.2.2.1
  have hnt := hIT.1
  unfold F_X12_strike
  refine r_start hK hA fun μ hK hA hz => ?_
  obtain ⟨hM, hL, hO, hT, hD, hR, hN, hU, hP⟩ := id hA
  obtain ⟨F, eF⟩ : ∃ F, F = fStrike s p := ⟨_, rfl⟩
  rw [← eF]
  unfold fStrike q_nat at eF
  have no : ¬ (q_inR p (sT s).1 ∧ okStrike s p.toNatClampNeg = true) → ((0 : Int32) = 0 ∨ (0 : Int32) = 1) ∧ (0 : Int32) = F.1 ∧ rOK μ b F.2 0 μ := by
    intro h; rw [if_neg h] at eF; rw [eF]; exact ⟨Or.inl rfl, rfl, rOK.rf hA hz⟩
  rw [wp_bn, xgI12 hK, show mI μ (64 * 12 + 23) (b + 38) = q_i3 (sT s).1 from hT.1, wp_bn, wp_eq (in_cnt (by omega)), wp_ite]
  by_cases h : q_inR p (sT s).1
  rotate_left
  · rw [if_neg h, if_neg (by decide), wp_rz]; exact no fun z => h z.1
  obtain ⟨t, ht, rfl⟩ := inR_i3 h
  rw [i3_toNat (by omega)] at eF no
  rw [if_pos h, if_pos (by decide)]
  obtain ⟨i0, i1, i1', i2, i2', i3', i4, i5, i6⟩ := hIT.2.1 t ht
  obtain ⟨j, hj, ej⟩ := inR_i3 i0
  obtain ⟨by', hby, eby⟩ := inR_i3 i3'
  obtain ⟨se, hse, ese⟩ := inR_i3 i4
  have h0 : aI μ 288 (b + 55) (7 * t) = q_i3 j := by rw [← ej]; exact hT.2 t ht 0 (by omega)
  have h1 := hT.2 t ht 1 (by omega)
  have h2 := hT.2 t ht 2 (by omega)
  have h3 : aI μ 288 (b + 55) (7 * t + 3) = q_i3 by' := by rw [← eby]; exact hT.2 t ht 3 (by omega)
  have h4 : aI μ 288 (b + 55) (7 * t + 4) = q_i3 se := by rw [← ese]; exact hT.2 t ht 4 (by omega)
  have h6 := hT.2 t ht 6 (by omega)
  have ok : okStrike s t = ((sT s).2 t 6 == 0 && (sG s).2 j == 0 && vFa (sM s) by' == 0 && vFa (sM s) se == 0) := by
    unfold okStrike q_nat; rw [ej, eby, ese, i3_toNat (by omega), i3_toNat (by omega), i3_toNat (by omega)]
  rw [ok] at eF no
  have b6 : 7 * t + 6 < 4900 := by omega
  have b4 : 7 * t + 4 < 4900 := by omega
  have b3 : 7 * t + 3 < 4900 := by omega
  have b2 : 7 * t + 2 < 4900 := by omega
  have b1 : 7 * t + 1 < 4900 := by omega
  have b0 : 7 * t < 4900 := by omega
  have bby : by' < 12 := by omega
  have bse : se < 12 := by omega
  rw [wp_bn, xgP12_22 hK, i3m7, i3p6, wp_bn, xl288 hK, i3_toNat (by omega), h6]
  refine ⟨inA_of (by omega) b6, ?_⟩
  rw [wp_ite]
  by_cases e6 : (sT s).2 t 6 = 0
  rotate_left
  · rw [if_pos (i6.resolve_left e6), wp_rz]; exact no fun z => by have := z.2; simp only [Bool.and_eq_true, beq_iff_eq] at this; exact e6 this.1.1.1
  rw [if_neg (by rw [e6]; decide), wp_bn, xgP12_13 hK, wp_bn, xgP12_22 hK, i3p3, wp_bn, xl288 hK, i3_toNat (by omega), h3]
  refine ⟨inA_of (by omega) b3, ?_⟩
  rw [wp_bn, xl226 hK, i3_toNat (by omega), (hM.2 by' bby).2.2.1]
  refine ⟨inA_of (by omega) bby, ?_⟩
  rw [wp_ite]
  by_cases eb : vFa (sM s) by' = 0
  rotate_left
  · rw [if_pos eb, wp_rz]; exact no fun z => by have := z.2; simp only [Bool.and_eq_true, beq_iff_eq] at this; exact eb this.1.2
  rw [if_neg (fun z => z eb), wp_bn, xgP12_13 hK, wp_bn, xgP12_22 hK, i3p4, wp_bn, xl288 hK, i3_toNat (by omega), h4]
  refine ⟨inA_of (by omega) b4, ?_⟩
  rw [wp_bn, xl226 hK, i3_toNat (by omega), (hM.2 se bse).2.2.1]
  refine ⟨inA_of (by omega) bse, ?_⟩
  rw [wp_ite]
  by_cases es : vFa (sM s) se = 0
  rotate_left
  · rw [if_pos es, wp_rz]; exact no fun z => by have := z.2; simp only [Bool.and_eq_true, beq_iff_eq] at this; exact es this.2
  rw [if_neg (fun z => z es), wp_bn, xgP12_19 hK, wp_bn, xgP12_22 hK, wp_bn, xl288 hK, i3_toNat (by omega), h0]
  refine ⟨inA_of (by omega) b0, ?_⟩
  rw [wp_bn, xl274 hK, i3_toNat (by omega), (hL j hj).2.1]
  refine ⟨inA_of (by omega) hj, ?_⟩
  rw [wp_ite]
  by_cases ec : (sG s).2 j = 0
  rotate_left
  · rw [if_neg ec, wp_rz]; exact no fun z => by have := z.2; simp only [Bool.and_eq_true, beq_iff_eq] at this; exact ec this.1.1.2
  rw [if_pos ec]
  rw [if_pos ⟨h, by simp [e6, ec, eb, es]⟩, ej, eby, ese, i3_toNat (by omega), i3_toNat (by omega), i3_toNat (by omega)] at eF
  rw [wp_bn, xgP12_22 hK, wp_bn, xs288 hK, i3_toNat (by omega)]
  refine ⟨inA_of (by omega) b6, ?_⟩
  obtain ⟨μ1, e1⟩ : ∃ μ1, μ1 = tI μ 288 (b + 55) (7 * t + 6) 1 := ⟨_, rfl⟩
  rw [← e1]
  have m1 : Md [2288] μ μ1 := by rw [e1]; exact Md.tI (k := 288) (kr hK 55 287 (by decide))
  have K1 := m1.k0 hK
  have T1 : RT μ1 b ((sT s).1, upd2 (sT s).2 t 6 1) := by rw [e1]; exact RX.set (f := 791) (k := 288) (o := 55) (W := 7) hT ht (by omega)
  have fa : ∀ w, w < 6 → aI μ1 288 (b + 55) (7 * t + w) = aI μ 288 (b + 55) (7 * t + w) := fun w hw => by rw [e1, aI_tI', if_neg (by omega)]
  rw [wp_bn, xgP12_22 K1, wp_bn, xl288 K1, i3_toNat (by omega), fa 4 (by omega), h4]
  refine ⟨inA_of (by omega) b4, ?_⟩
  rw [wp_bn, xgP12_22 K1, wp_bn, xl288 K1, i3_toNat (by omega), fa 3 (by omega), h3]
  refine ⟨inA_of (by omega) b3, ?_⟩
  rw [wp_bn, xgP12_22 K1, wp_bn, xl288 K1, i3_toNat (by omega), show aI μ1 288 (b + 55) (7 * t) = q_i3 j by rw [← h0]; exact fa 0 (by omega)]
  refine ⟨inA_of (by omega) b0, ?_⟩
  rw [wp_bn, xgP12_22 K1, i3p1, wp_bn, xl288 K1, i3_toNat (by omega), fa 1 (by omega), h1]
  refine ⟨inA_of (by omega) b1, ?_⟩
  rw [wp_bn, xgP12_22 K1, i3p2, wp_bn, xl288 K1, i3_toNat (by omega), fa 2 (by omega), h2]
  refine ⟨inA_of (by omega) b2, ?_⟩
  rw [wp_bn, xpR12 K1, wp_bn]
  have hIL := hI.2.1
  refine q_wp_mono (r_move (nt := 0) (c := 0) (p := (sT s).2 t 1) K1 (hM.fr m1.1 rfl) (hL.fr m1.1 rfl) bse bby hj ⟨i2, i2'⟩ (fun i hi => by have := (hIL i hi).1; omega) (fun q hq => ((hIL j hj).2.1 q hq).2.1)) ?_
  rintro _ ρ ⟨M2, L2, m2⟩
  rw [wp_rz]
  have hC := m1.tr m2
  refine ⟨Or.inr rfl, by rw [eF], ?_⟩
  rw [eF]
  exact rOK.of ⟨M2, L2, hO.fr hC.1 rfl, T1.fr m2.1 rfl, hD.fr hC.1 rfl, hR.fr hC.1 rfl, hN.fr hC.1 rfl, hU.fr hC.1 rfl, hP.fr hC.1 rfl⟩ hC rfl (by rw [hC.1.i 803 rfl]; exact hz)

theorem c_lp {μ : Mem} {b j : Nat} {v : VD} (hK : K0 μ b) (hW : WF μ) (hD : CDx μ b v) (hj : j < 6) : F_X11_latestPrice b (q_i3 j) μ = some (lpv v j, μ) := c_latestPrice hK hW hD hj
def hldp (v : q_VT) (p m : Int32) (t : Nat) : Bool := v.2 t 0 == 1 && v.2 t 2 == p && v.2 t 5 == m
theorem c_heldOf {μ : Mem} {b : Nat} {v : q_VT} {p m : Int32} (hK : K0 μ b) (hW : WF μ) (hN : q_CN μ b v) (hn : v.1 ≤ 80) : F_X11_heldOf b p m μ = some (q_i3 (q_cnt (hldp v p m) v.1), μ) := by
  apply eq_wp
  unfold F_X11_heldOf
  have k36 := hK.k 36 14 (by decide)
  refine wp_loop (σ := Int32) (fun f k x => F_X11_heldOf_L5 f b p m x (q_i3 k)) v.1 (fun k x ν => ν = μ ∧ x = q_i3 (q_cnt (hldp v p m) k)) _ ?_ ?_ FU 0 0 μ (by omega) (by show _ < 100000; omega) ⟨rfl, rfl⟩
  · rintro f x ν ⟨rfl, rfl⟩
    unfold F_X11_heldOf_L5
    simp (maxSteps := 2000000) (disch := first | assumption | omega | (simp only [K0_sI, K0_sL, K0_tI, K0_tL, K0_nE]; assumption)) only [wp_bn, xgI11, xgL11, xwI11, xpR11, xgI4, xgL4, xwI4, xpR4, xgI7, xgL7, xwI7, xpR7, xgI12, xgL12, xwI12, xpR12, xgP11_0, xgP11_1, xgP11_2, xgP11_3, xgP11_4, xgP11_5, xgP11_6, xgP11_7, xgP4_0, xl115, xs115, xgP4_9, xl120, xs120, xgP7_0, xgP7_1, xl136, xs136, xgP7_2, xl144, xs144, xgP12_0, xl160, xs160, xgP12_4, xl168, xs168, xgP12_5, xl176, xs176, xgP12_6, xl184, xs184, xgP12_7, xl192, xs192, xgP12_8, xl200, xs200, xgP12_11, xl209, xs209, xgP12_12, xl218, xs218, xgP12_13, xl226, xs226, xgP12_14, xl232, xs232, xgP12_15, xl241, xs241, xgP12_16, xl248, xs248, xgP12_17, xl256, xs256, xgP12_18, xl264, xs264, xgP12_19, xl274, xs274, xgP12_20, xl280, xs280, xgP12_22, xl288, xs288, xgP12_25, xl296, xs296, xgP12_26, xl305, xs305, xgP12_27, xl312, xs312, xgP12_28, xl321, xs321, xgP12_29, xl328, xs328, xgP12_31, xl336, xs336, xgP12_33, xl344, xs344, xgP12_46, xl352, xs352, xgP12_47, xl360, xs360, xgP2_0, xpL2_0, xgP2_1, xpL2_1, xgP2_2, xpL2_2, xgI2, xwZ2, xpR2, xmo, xpL_5, xpL_33, xpL_34, xpL_35, xpL_36, xpL_37, wp_eq (ls_size hW k36), hN.1, wp_ite, i3m2, i3m4, i3m5, i3m6, i3m7, i3m12, i3m60, i3m72, i3m1600, i3r6, i3p1, i3p2, i3p3, i3p4, i3p5, i3p6, i3p7, i3p8, i3p9, i3p20, i3_add, i3_mul, i3_toNat, inA_i3, i3_lt, i3_le, i3_eq, Nat.le_refl, if_true, wp_rt]
    exact ⟨trivial, trivial⟩
  · rintro f k x ν hk ⟨rfl, rfl⟩ ih
    show q_wp (F_X11_heldOf_L5 (f + 1) b p m _ (q_i3 k)) ν _
    unfold F_X11_heldOf_L5 F_X11_heldOf_L63 F_X11_heldOf_L64
    obtain ⟨g1, g2⟩ := hN.2 k hk
    have g3 : mI ν (64 * 3 + 5) ((q_lst ν (b + 36)).getD k 0) = v.2 k 0 := g2 0 (by omega)
    have g4 : mI ν (64 * 3 + 0) ((q_lst ν (b + 36)).getD k 0) = v.2 k 2 := g2 2 (by omega)
    have g5 : mI ν (64 * 3 + 1) ((q_lst ν (b + 36)).getD k 0) = v.2 k 5 := g2 5 (by omega)
    have hle : ¬ v.1 ≤ k := by omega
    simp (maxSteps := 2000000) (disch := first | assumption | omega | (simp only [K0_sI, K0_sL, K0_tI, K0_tL, K0_nE]; assumption)) only [wp_bn, xgI11, xgL11, xwI11, xpR11, xgI4, xgL4, xwI4, xpR4, xgI7, xgL7, xwI7, xpR7, xgI12, xgL12, xwI12, xpR12, xgP11_0, xgP11_1, xgP11_2, xgP11_3, xgP11_4, xgP11_5, xgP11_6, xgP11_7, xgP4_0, xl115, xs115, xgP4_9, xl120, xs120, xgP7_0, xgP7_1, xl136, xs136, xgP7_2, xl144, xs144, xgP12_0, xl160, xs160, xgP12_4, xl168, xs168, xgP12_5, xl176, xs176, xgP12_6, xl184, xs184, xgP12_7, xl192, xs192, xgP12_8, xl200, xs200, xgP12_11, xl209, xs209, xgP12_12, xl218, xs218, xgP12_13, xl226, xs226, xgP12_14, xl232, xs232, xgP12_15, xl241, xs241, xgP12_16, xl248, xs248, xgP12_17, xl256, xs256, xgP12_18, xl264, xs264, xgP12_19, xl274, xs274, xgP12_20, xl280, xs280, xgP12_22, xl288, xs288, xgP12_25, xl296, xs296, xgP12_26, xl305, xs305, xgP12_27, xl312, xs312, xgP12_28, xl321, xs321, xgP12_29, xl328, xs328, xgP12_31, xl336, xs336, xgP12_33, xl344, xs344, xgP12_46, xl352, xs352, xgP12_47, xl360, xs360, xgP2_0, xpL2_0, xgP2_1, xpL2_1, xgP2_2, xpL2_2, xgI2, xwZ2, xpR2, xmo, xpL_5, xpL_33, xpL_34, xpL_35, xpL_36, xpL_37, wp_eq (ls_size hW k36), hN.1, wp_ite, i3m2, i3m4, i3m5, i3m6, i3m7, i3m12, i3m60, i3m72, i3m1600, i3r6, i3p1, i3p2, i3p3, i3p4, i3p5, i3p6, i3p7, i3p8, i3p9, i3p20, i3_add, i3_mul, i3_toNat, inA_i3, i3_lt, i3_le, i3_eq, hle, if_false, wp_eq (ls_get hW k36 (show k < (q_lst ν (b + 36)).length by rw [hN.1]; exact hk)), wp_cst, wp_gI, g1, g3, g4, g5, true_and]
    have step : ∀ y, y = q_i3 (q_cnt (hldp v p m) (k + 1)) → q_wp (F_X11_heldOf_L5 f b p m y (q_i3 (k + 1))) ν (fun a μ' => a = q_i3 (q_cnt (hldp v p m) v.1) ∧ μ' = ν) := fun y hy => ih y ν ⟨rfl, hy⟩
    have z0 : q_i3 (q_cnt (hldp v p m) k) + 0 = q_i3 (q_cnt (hldp v p m) k) := by simp
    by_cases e1 : v.2 k 0 = 1
    · rw [if_neg (fun z => z e1)]
      by_cases e2 : v.2 k 2 = p
      · rw [if_neg (fun z => z e2)]
        by_cases e3 : v.2 k 5 = m
        · rw [if_neg (fun z => z e3)]; exact step _ (by rw [cnt_succ]; unfold hldp; simp [e1, e2, e3])
        · rw [if_pos e3, z0]; exact step _ (by rw [cnt_succ]; unfold hldp; simp [e3])
      · rw [if_pos e2, z0]; exact step _ (by rw [cnt_succ]; unfold hldp; simp [e2])
    · rw [if_pos e1, z0]; exact step _ (by rw [cnt_succ]; unfold hldp; simp [e1])
def nRow (h p r m : Int32) : Nat → Int32 := fun w => if w = 0 then 1 else if w = 1 then h else if w = 2 then p else if w = 3 then r else if w = 4 then 0 else if w = 5 then m else (1 : Int32) <<< (h &&& 31)
abbrev okN (s : q_St) (p m r : Int32) : Prop := q_inR p (vN (sM s)) ∧ q_inR m 6 ∧ q_inR r (sR s).1 ∧ (q_sN s).1 < 80 ∧ (sR s).2 (q_nat r) 3 ≠ 0 ∧ (sR s).2 (q_nat r) 2 = p ∧ (sG s).2 (q_nat m) ≠ 0 ∧ lat (sD s) (q_nat m) ≠ -1 ∧ (sG s).1 (q_nat m) ≠ [] ∧ q_i3 (q_cnt (hldp (q_sN s) p m) (q_sN s).1) < - vPs (sM s) (q_nat p) (q_nat m)
def fNotice (s : q_St) (p m r : Int32) : Int32 × q_St := if okN s p m r then (q_i3 (q_sN s).1, wR (q_wN s ((q_sN s).1 + 1, q_upd (q_sN s).2 (q_sN s).1 (nRow (((sG s).1 (q_nat m)).getD 0 (0, 0)).1 p r m))) ((sR s).1, upd2 (sR s).2 (q_nat r) 3 0)) else (-1, s)
theorem nTag_ne {w : Nat} (hw : w < 7) : nTag w ≠ 832 ∧ nTag w ≠ 833 ∧ nTag w ≠ 834 ∧ nTag w ≠ 2372 ∧ nTag w ≠ 323 := by
  have : ∀ w : Fin 7, nTag w.1 ≠ 832 ∧ nTag w.1 ≠ 833 ∧ nTag w.1 ≠ 834 ∧ nTag w.1 ≠ 2372 ∧ nTag w.1 ≠ 323 := by decide
  exact this ⟨w, hw⟩
theorem nTag_nc {w : Nat} (hw : w < 7) : [832, 833, 834, 2372].contains (nTag w) = false := by
  have : ∀ w : Fin 7, [832, 833, 834, 2372].contains (nTag w.1) = false := by decide
  exact this ⟨w, hw⟩
theorem rcTag : ∀ w, w < 4 → ∀ u, u < 4 → (fun w => 320 + w) u = (fun w => 320 + w) w → u = w := fun w _ u _ h => by have h : 320 + u = 320 + w := h; omega
theorem lpv0 {v : VD} {n j : Nat} (hI : ID v n) (hj : j < 6) : lpv v j = 0 ↔ lat v j = -1 := by
  rw [lpv_lat hI hj]
  unfold pz
  by_cases h : lat v j = -1
  · rw [if_pos h]; exact ⟨fun _ => h, fun _ => rfl⟩
  · rw [if_neg h]
    refine ⟨fun z => ?_, fun z => absurd z h⟩
    exfalso
    unfold lat at h z
    by_cases h0 : dT v = 0
    · rw [if_pos h0] at h; exact h rfl
    · rw [if_neg h0] at h z
      have hk : ¬ q_i3 (dT v) < q_i3 (dT v - 1) := fun w => by have := hI.1; have := (i3_lt (by omega) (by omega)).mp w; omega
      obtain ⟨_, q1, q2⟩ := st_lk hI hj (show dT v - 1 < dT v by omega) hk
      by_cases hs : dSt v (dT v - 1) j = -1
      · exact h (q1 hs)
      · have := (q2 hs).1; rw [z] at this; exact absurd this (by decide)
theorem c_notice {μ : Mem} {b c : Nat} {s : q_St} (hK : K0 μ b) (hW : WF μ) (hA : q_AC μ b s) (hI : Iv s c) (hc : c ≤ 600) (p m r : Int32) : q_wp (F_X11_notice b p m r) μ (fun x ν => x = (fNotice s p m r).1 ∧ cOK μ b (fNotice s p m r).2 3 200 ν) := by
  obtain ⟨hM, hL, hO, hT, hD, hR, hN, hU, hP⟩ := id hA
  have hn := hI.1.1
  have hIR := hI.2.2.2.2.2.1
  have hnr := hIR.1
  have hnn := hI.2.2.2.2.2.2.1.1
  have hID := hI.2.2.2.2.1
  have k36 := hK.k 36 14 (by decide)
  obtain ⟨F, eF⟩ : ∃ F, F = fNotice s p m r := ⟨_, rfl⟩
  rw [← eF]
  unfold fNotice at eF
  have no : ¬ okN s p m r → (-1 : Int32) = F.1 ∧ cOK μ b F.2 3 200 μ := by
    intro h; rw [if_neg h] at eF; rw [eF]; exact ⟨rfl, cOK.rf hK hW hA⟩
  unfold F_X11_notice
  rw [wp_bn, xpR11 hK, wp_bn, wp_eq (c_memberOf hK hW hM p), wp_bn, xpR11 hK, wp_bn, wp_eq (c_receiptOf hK hW hR r), wp_ite]
  by_cases h1 : q_inR p (vN (sM s))
  rotate_left
  · rw [if_neg h1, if_pos rfl, wp_rt]; exact no fun z => h1 z.1
  rw [if_pos h1, if_neg (by simp), wp_bn, wp_eq c_isMonth, wp_ite]
  by_cases h2 : q_inR m 6
  rotate_left
  · rw [if_neg h2, if_pos rfl, wp_rt]; exact no fun z => h2 z.2.1
  rw [if_pos h2, if_neg (by decide), wp_ite]
  by_cases h3 : q_inR r (sR s).1
  rotate_left
  · rw [if_neg h3, if_pos rfl, wp_rt]; exact no fun z => h3 z.2.2.1
  rw [if_pos h3, if_neg (by simp)]
  obtain ⟨i, hi, rfl⟩ := inR_i3 h1
  obtain ⟨j, hj, rfl⟩ := inR_i3 h2
  obtain ⟨k, hk, rfl⟩ := inR_i3 h3
  have ei : q_nat (q_i3 i) = i := i3_toNat (by omega)
  have ej : q_nat (q_i3 j) = j := i3_toNat (by omega)
  have ek : q_nat (q_i3 k) = k := i3_toNat (by omega)
  unfold okN at eF no
  rw [ei, ej, ek] at eF no
  rw [i3_toNat (show i < 2147483648 by omega), i3_toNat (show k < 2147483648 by omega)]
  obtain ⟨g1, g2⟩ := hR.2 k hk
  obtain ⟨rr, hrr⟩ : ∃ rr, rr = (q_lst μ (b + 35)).getD k 0 := ⟨_, rfl⟩
  rw [← hrr] at g1 g2 ⊢
  have g1' : mK μ rr = 5 + 1 := g1
  rw [wp_bn, wp_gI, show mI μ (64 * 5 + 3) rr = (sR s).2 k 3 from g2 3 (by omega)]
  refine ⟨g1', ?_⟩
  rw [wp_ite]
  by_cases h4 : (sR s).2 k 3 = 0
  · rw [if_pos h4, wp_rt]; exact no fun z => z.2.2.2.2.1 h4
  rw [if_neg h4, wp_bn, wp_gI, show mI μ (64 * 5 + 2) rr = (sR s).2 k 2 from g2 2 (by omega)]
  refine ⟨g1', ?_⟩
  rw [wp_ite]
  by_cases h5 : (sR s).2 k 2 = q_i3 i
  rotate_left
  · rw [if_pos h5, wp_rt]; exact no fun z => h5 z.2.2.2.2.2.1
  rw [if_neg (fun z => z h5), wp_bn, xgP11_6 hK, wp_bn, xpL_36 hK, wp_bn, wp_eq (ls_size hW k36), hN.1, wp_ite]
  have hlt : q_i3 (q_sN s).1 < 80 ↔ (q_sN s).1 < 80 := i3_lt (b := 80) (by omega) (by omega)
  by_cases h6 : (q_sN s).1 < 80
  rotate_left
  · rw [if_neg (fun z => h6 (hlt.mp z)), wp_rt]; exact no fun z => h6 z.2.2.2.1
  rw [if_pos (hlt.mpr h6), wp_bn, xgP11_2 hK, wp_bn, xmo hK hj, wp_bn, xgI2 hK hj, show mI μ (64 * 2 + 3) (b + (9 + 4 * j)) = (sG s).2 j from (hL j hj).2.2, wp_ite]
  by_cases h7 : (sG s).2 j = 0
  · rw [if_pos h7, wp_rt]; exact no fun z => z.2.2.2.2.2.2.1 h7
  rw [if_neg h7, wp_bn, xpR11 hK, wp_bn, wp_eq (c_lp hK hW hD.x hj), wp_ite]
  have l0 := lpv0 hID hj
  by_cases h8 : lat (sD s) j = -1
  · rw [if_pos (l0.mpr h8), wp_rt]; exact no fun z => z.2.2.2.2.2.2.2.1 h8
  rw [if_neg (fun z => h8 (l0.mp z)), wp_bn, xgP2_2 hK hj, wp_bn, xpL2_2 hK hj, wp_bn]
  obtain ⟨_, _, _, _, _, _, k12⟩ := hK.mo hj
  have hlen := hL.len hj
  rw [wp_eq (ls_empty hW k12), hlen, wp_ite]
  by_cases h9 : (sG s).1 j = []
  · rw [h9]; rw [if_pos (by decide), wp_rt]; exact no fun z => z.2.2.2.2.2.2.2.2.1 h9
  have hl0 : 0 < ((sG s).1 j).length := List.length_pos_iff.mpr h9
  rw [if_neg (by rw [if_neg (by omega)]; decide), wp_bn, xpR11 hK, wp_bn, wp_eq (c_heldOf hK hW hN hnn)]
  obtain ⟨⟨m1, m2, m3, m4⟩, p1, p2, p3, p4, p5⟩ := hM.2 i hi
  rw [wp_bn, wp_gP, show mP μ (64 * 1 + 0) (mr μ b i) = some (mr μ b i + 1) from m2]
  refine ⟨m1, ?_⟩
  rw [wp_bn, wp_lI, m4, inA_i3 (by omega), i3_toNat (by omega), p5 j hj]
  refine ⟨m3, hj, ?_⟩
  rw [wp_ite]
  by_cases h10 : q_i3 (q_cnt (hldp (q_sN s) (q_i3 i) (q_i3 j)) (q_sN s).1) < - vPs (sM s) i j
  rotate_left
  · rw [if_neg h10, wp_rt]; exact no fun z => h10 z.2.2.2.2.2.2.2.2.2
  rw [if_pos ⟨h1, h2, h3, h6, h4, h5, h7, h8, h9, h10⟩] at eF
  rw [if_pos h10, wp_bn, wp_wZ]
  refine ⟨g1', Or.inl rfl, ?_⟩
  obtain ⟨μ1, e1⟩ : ∃ μ1, μ1 = sI μ 323 rr 0 := ⟨_, rfl⟩
  show q_wp _ (sI μ 323 rr 0) _
  rw [← e1]
  have md1 : Md [323] μ μ1 := by rw [e1]; exact Md.sI (by omega)
  have hC1 := md1.cs (b := b) hW rfl
  have K1 := md1.k0 hK
  have W1 := hC1.1
  have R1 : CR μ1 b ((sR s).1, upd2 (sR s).2 k 3 0) := by
    have := TX.set (x := 0) hW (hK.k 35 14 (by decide)) hR.tx hk (show 3 < 4 by omega) (by omega) (rcTag 3 (by omega)) (by show 320 + 3 < 833; omega)
    rw [e1, hrr]; exact this
  have hz := W1.z
  rw [wp_bn, xgP11_6 K1, wp_bn, wp_newO hz, wp_bn]
  obtain ⟨x, hx⟩ : ∃ x, x = mX μ1 := ⟨_, rfl⟩
  rw [← hx]
  have f2 := q_Fr.nw hz (3 + 1) 0 7
  have K2 := K1.fr f2 rfl
  have n1 := (Nw.rf W1).al 4 0 7 (by omega)
  have kx : mK (q_al (3 + 1) 0 7 μ1) x = 4 := by rw [mK_al, if_pos hx]
  rw [xgP2_2 K2 hj, wp_bn, xpL2_2 K2 hj, wp_bn]
  have L1 : q_CL μ1 b (sG s) := hL.fr hC1.2.1 (fun i hi => hC1.2.2.1 _ (lgO_lo hi) (by simp)) rfl
  have L2 : q_CL (q_al (3 + 1) 0 7 μ1) b (sG s) := L1.fr f2 (fun i hi => by rw [n1.2.1]) rfl
  obtain ⟨a1, a2, a3⟩ := L2.at hj hl0
  obtain ⟨_, _, _, _, _, _, k12'⟩ := K2.mo hj
  rw [show (0 : Int32) = q_i3 0 from rfl, wp_eq (ls_get n1.1 k12' (by rw [L2.len hj]; exact hl0)), wp_bn, wp_cst]
  refine ⟨a3, ?_⟩
  rw [wp_bn, wp_gI, show mI (q_al (3 + 1) 0 7 μ1) (64 * 9 + 0) ((q_lst (q_al (3 + 1) 0 7 μ1) (b + (12 + 4 * j))).getD 0 0) = (((sG s).1 j).getD 0 (0, 0)).1 from a1]
  refine ⟨a3, ?_⟩
  obtain ⟨h, hh⟩ : ∃ h, h = (((sG s).1 j).getD 0 (0, 0)).1 := ⟨_, rfl⟩
  rw [← hh] at eF ⊢
  rw [wp_bn, wp_pRc]
  refine ⟨kx, ?_⟩
  unfold F_X3_init
  simp only [wp_bn, wp_wI, wp_rt, Nat.reduceMul, Nat.reduceAdd]
  refine ⟨kx, kx, kx, kx, kx, kx, ?_⟩
  have nz : mK (q_al (3 + 1) 0 7 μ1) x ≠ 0 := by omega
  have n2 := (((((n1.sI (f := 197) (a := x) (v := 1) nz (by omega)).sI (f := 192) (a := x) (v := q_i3 i) nz (by omega)).sI (f := 193) (a := x) (v := q_i3 j) nz (by omega)).sI (f := 194) (a := x) (v := q_i3 k) nz (by omega)).sI (f := 195) (a := x) (v := h) nz (by omega)).sI (f := 198) (a := x) (v := (1 : Int32) <<< (h &&& 31)) nz (by omega)
  obtain ⟨μ3, e3⟩ : ∃ μ3, μ3 = sI (sI (sI (sI (sI (sI (q_al 4 0 7 μ1) 197 x 1) 192 x (q_i3 i)) 193 x (q_i3 j)) 194 x (q_i3 k)) 195 x h) 198 x ((1 : Int32) <<< (h &&& 31)) := ⟨_, rfl⟩
  have f3 : q_Fr [197, 192, 193, 194, 195, 198] μ1 μ3 := by rw [e3]; exact (((((((q_Fr.nw hz 4 0 7).tr (q_Fr.sI _ 197 x _)).tr (q_Fr.sI _ 192 x _)).tr (q_Fr.sI _ 193 x _)).tr (q_Fr.sI _ 194 x _)).tr (q_Fr.sI _ 195 x _)).tr (q_Fr.sI _ 198 x _)).wk rfl
  rw [← e3] at n2
  show q_wp (pRc 13 (some (b + 36))) (sI (sI (sI (sI (sI (sI (q_al 4 0 7 μ1) 197 x 1) 192 x (q_i3 i)) 193 x (q_i3 j)) 194 x (q_i3 k)) 195 x h) 198 x ((1 : Int32) <<< (h &&& 31))) _
  rw [← e3]
  have K3 : K0 μ3 b := K1.fr f3 rfl
  have kx3 : mK μ3 x = 4 := by rw [e3]; exact kx
  rw [xpL_36 K3]
  have l3 : q_lst μ3 (b + 36) = q_lst μ1 (b + 36) := by rw [n2.2.1]
  have l1 : q_lst μ1 (b + 36) = q_lst μ (b + 36) := hC1.2.2.1 36 (by decide) (by decide)
  refine q_wp_mono (ls_add n2.1 (K3.k 36 14 (by decide)) (by omega) (n2.nin W1 (by omega)) (by rw [l3, l1, hN.1]; omega)) ?_
  rintro _ μ4 ⟨_, u⟩
  have hC3 : Cs [197, 192, 193, 194, 195, 198] [] 1 7 b μ1 μ3 := n2.cs f3 (by rw [e3]; exact Nat.le_refl _) (by rw [e3]; exact Nat.le_refl _)
  have hC34 := hC3.tr (u.cs K3)
  have hC := hC1.tr hC34
  have K4 : K0 μ4 b := hK.fr hC.2.1 rfl
  rw [l3, l1] at u
  have l4 : q_lst μ4 (b + 36) = q_lst μ (b + 36) ++ [x] := u.2.2.1
  rw [xgP11_6 K4, xpL_36 K4, wp_eq (ls_size hC.1 (K4.k 36 14 (by decide))), l4, List.length_append, hN.1, eF]
  refine ⟨i3_sub (a := (q_sN s).1 + 1) (b := 1) (by omega), ?_⟩
  refine cOK.of hK ⟨hM.fr hC.2.1 (hC.2.2.1 33 (by decide) (by decide)) rfl, hL.fr hC.2.1 (fun i hi => hC.2.2.1 _ (lgO_lo hi) (lgNo (by decide) hi)) rfl, hO.fr hC.2.1 (fun i hi s => hC.2.2.1 _ (sdO_lo hi s) (sdNo (by decide) hi s)) rfl, hT.fr hC.2.1 (hC.2.2.1 34 (by decide) (by decide)) rfl, hD.fr hC.2.1 (hC.2.2.1 37 (by decide) (by decide)) rfl, R1.fr hC34.2.1 (hC34.2.2.1 35 (by decide) (by decide)) rfl, ?_, hU.fr hC.2.1 (hC.2.2.1 5 (by decide) (by decide)) rfl, hP.fr hC.2.1 rfl⟩ hC rfl rfl (by omega) (by rw [l3, l1, hN.1]; omega)
  have f4 := u.2.1
  refine TX.app (o := 36) (k := 4) (W := 7) (tag := nTag) hN.tx l4 (fun a ha => hC.2.1.k ha (by omega)) (f4.k kx3 (by omega)) ?_ ?_
  · intro w hw
    rw [f4.i _ (nTag_nc hw), e3]
    have b4 : mI μ1 196 x = 0 := (hz x (by omega)).1 196
    rcases (show w = 0 ∨ w = 1 ∨ w = 2 ∨ w = 3 ∨ w = 4 ∨ w = 5 ∨ w = 6 by omega) with rfl | rfl | rfl | rfl | rfl | rfl | rfl <;> simp [mI_sI', nRow, nTag, mI_al, b4]
  · intro w hw a ha
    have hne : a ≠ x := fun z => by
      have := hW.nin k36 (show mX μ ≤ x by rw [hx, md1.2.2.2.2.1]; exact Nat.le_refl _)
      exact this (z ▸ ha)
    obtain ⟨t1, t2, t3, t4, t5⟩ := nTag_ne hw
    rw [f4.i _ (nTag_nc hw), e3]
    simp only [mI_sI', hne, and_false, if_false, mI_al]
    rw [e1, mI_sI', if_neg (fun z => t5 z.1)]

def q_w7 (μ : Mem) (k a n : Nat) (x0 x1 x2 x3 x4 x5 x6 : Int32) : Mem := tI (tI (tI (tI (tI (tI (tI μ k a (7 * n) x0) k a (7 * n + 1) x1) k a (7 * n + 2) x2) k a (7 * n + 3) x3) k a (7 * n + 4) x4) k a (7 * n + 5) x5) k a (7 * n + 6) x6
theorem w7_at {μ : Mem} {k a n t w : Nat} {x0 x1 x2 x3 x4 x5 x6 : Int32} (hw : w < 7) : aI (q_w7 μ k a n x0 x1 x2 x3 x4 x5 x6) k a (7 * t + w) = if t = n then [x0, x1, x2, x3, x4, x5, x6].getD w 0 else aI μ k a (7 * t + w) := by
  unfold q_w7
  simp only [aI_tI', true_and]
  by_cases e : t = n
  · subst e
    rw [if_pos rfl]
    rcases (show w = 0 ∨ w = 1 ∨ w = 2 ∨ w = 3 ∨ w = 4 ∨ w = 5 ∨ w = 6 by omega) with rfl | rfl | rfl | rfl | rfl | rfl | rfl <;> simp
  · rw [if_neg e, if_neg (by omega), if_neg (by omega), if_neg (by omega), if_neg (by omega), if_neg (by omega), if_neg (by omega), if_neg (by omega)]
theorem md_ti {μ ν : Mem} {k a i : Nat} {v : Int32} (h : Md [2000 + k] μ ν) (ha : mK μ a ≠ 0) : Md [2000 + k] μ (tI ν k a i v) := by
  have := h.tr (Md.tI (k := k) (i := i) (v := v) (show mK ν a ≠ 0 by rw [h.2.2.1]; exact ha))
  exact this.wk (T := [2000 + k]) (by unfold subL; simp)
theorem w7_md {μ : Mem} {k a n : Nat} {x0 x1 x2 x3 x4 x5 x6 : Int32} (h : mK μ a ≠ 0) : Md [2000 + k] μ (q_w7 μ k a n x0 x1 x2 x3 x4 x5 x6) := by
  unfold q_w7
  exact md_ti (md_ti (md_ti (md_ti (md_ti (md_ti (Md.tI h) h) h) h) h) h) h
theorem r_nput {μ : Mem} {b k : Nat} {s : q_St} {h p r m : Int32} (hK : K0 μ b) (hA : q_AR μ b s) (hz : mI μ 803 (b + 38) = 0) (hk : k < (sR s).1) : rOK μ b (wR (q_wN s ((q_sN s).1 + 1, q_upd (q_sN s).2 (q_sN s).1 (nRow h p r m))) ((sR s).1, upd2 (sR s).2 k 3 0)) 0 (sI (tI (q_w7 μ 344 (b + 62) (q_sN s).1 1 h p r 0 m ((1 : Int32) <<< (h &&& 31))) 336 (b + 61) (4 * k + 3) 0) 802 (b + 38) (q_i3 ((q_sN s).1 + 1))) := by
  obtain ⟨hM, hL, hO, hT, hD, hR, hN, hU, hP⟩ := id hA
  have m7 : Md [2344] μ (q_w7 μ 344 (b + 62) (q_sN s).1 1 h p r 0 m ((1 : Int32) <<< (h &&& 31))) := w7_md (k := 344) (kr hK 62 343 (by decide))
  obtain ⟨ν, eν⟩ : ∃ ν, ν = q_w7 μ 344 (b + 62) (q_sN s).1 1 h p r 0 m ((1 : Int32) <<< (h &&& 31)) := ⟨_, rfl⟩
  rw [← eν] at m7 ⊢
  have K1 := m7.k0 hK
  have R1 : RR (tI ν 336 (b + 61) (4 * k + 3) 0) b ((sR s).1, upd2 (sR s).2 k 3 0) := RX.set (f := 800) (k := 336) (o := 61) (W := 4) (hR.fr m7.1 rfl) hk (by omega)
  have m8 : Md [2336] ν (tI ν 336 (b + 61) (4 * k + 3) 0) := Md.tI (k := 336) (kr K1 61 335 (by decide))
  obtain ⟨ρ, eρ⟩ : ∃ ρ, ρ = tI ν 336 (b + 61) (4 * k + 3) 0 := ⟨_, rfl⟩
  rw [← eρ] at R1 m8 ⊢
  have K2 := m8.k0 K1
  have m9 : Md [802] ρ (sI ρ 802 (b + 38) (q_i3 ((q_sN s).1 + 1))) := Md.sI (kr K2 38 12 (by decide))
  have hC := (m7.tr m8).tr m9
  refine rOK.of ⟨hM.fr hC.1 rfl, hL.fr hC.1 rfl, hO.fr hC.1 rfl, hT.fr hC.1 rfl, hD.fr hC.1 rfl, R1.fr m9.1 rfl, ?_, hU.fr hC.1 rfl, hP.fr hC.1 rfl⟩ hC rfl (by rw [hC.1.i 803 rfl]; exact hz)
  refine ⟨by rw [mI_sI', if_pos ⟨rfl, rfl⟩]; rfl, fun t ht w hw => ?_⟩
  have ht : t < (q_sN s).1 + 1 := ht
  show _ = q_upd (q_sN s).2 (q_sN s).1 (nRow h p r m) t w
  rw [m9.1.ai 344 rfl, m8.1.ai 344 rfl, eν, w7_at hw]
  unfold q_upd
  by_cases e : t = (q_sN s).1
  · rw [if_pos e, if_pos e]
    rcases (show w = 0 ∨ w = 1 ∨ w = 2 ∨ w = 3 ∨ w = 4 ∨ w = 5 ∨ w = 6 by omega) with rfl | rfl | rfl | rfl | rfl | rfl | rfl <;> rfl
  · rw [if_neg e, if_neg e]; exact hN.2 t (by omega) w hw
theorem r_notice {μ : Mem} {b c : Nat} {s : q_St} (hK : K0 μ b) (hA : q_AR μ b s) (hI : Iv s c) (hc : c ≤ 600) (p m r : Int32) : q_wp (F_X12_notice (b + 38) p m r) μ (fun x ν => x = (fNotice s p m r).1 ∧ rOK μ b (fNotice s p m r).2 0 ν) := by
  have hn := hI.1.1
  have hIR := hI.2.2.2.2.2.1
  have hnr := hIR.1
  have hnn := hI.2.2.2.2.2.2.1.1
  have hID := hI.2.2.2.2.1
  have z0 : (0 : Int32).toInt = 0 := rfl
  unfold F_X12_notice
  refine r_start hK hA fun μ hK hA hz => ?_
  obtain ⟨hM, hL, hO, hT, hD, hR, hN, hU, hP⟩ := id hA
  obtain ⟨F, eF⟩ : ∃ F, F = fNotice s p m r := ⟨_, rfl⟩
  rw [← eF]
  unfold fNotice at eF
  have no : ¬ okN s p m r → (-1 : Int32) = F.1 ∧ rOK μ b F.2 0 μ := by
    intro h; rw [if_neg h] at eF; rw [eF]; exact ⟨rfl, rOK.rf hA hz⟩
  rw [wp_bn, xpR12 hK, wp_bn, wp_eq (r_isMember hK hM hn p), wp_ite]
  by_cases h1 : q_inR p (vN (sM s))
  rotate_left
  · rw [if_neg h1, if_pos rfl, wp_rt]; exact no fun z => h1 z.1
  rw [if_pos h1, if_neg (by decide), wp_bn, wp_eq r_isMonth, wp_ite]
  by_cases h2 : q_inR m 6
  rotate_left
  · rw [if_neg h2, if_pos rfl, wp_rt]; exact no fun z => h2 z.2.1
  rw [if_pos h2, if_neg (by decide), wp_bn, xgI12 hK, show mI μ (64 * 12 + 32) (b + 38) = q_i3 (sR s).1 from hR.1, wp_bn, wp_eq (in_cnt (by omega)), wp_ite]
  by_cases h3 : q_inR r (sR s).1
  rotate_left
  · rw [if_neg h3, if_pos rfl, wp_rt]; exact no fun z => h3 z.2.2.1
  rw [if_pos h3, if_neg (by decide), wp_bn, xgI12 hK, show mI μ (64 * 12 + 34) (b + 38) = q_i3 (q_sN s).1 from hN.1, wp_ite]
  have heq : q_i3 (q_sN s).1 = 80 ↔ (q_sN s).1 = 80 := i3_eq (b := 80) (by omega) (by omega)
  by_cases h6 : (q_sN s).1 < 80
  rotate_left
  · rw [if_neg (fun z => z (heq.mpr (by omega))), wp_rt]; exact no fun z => h6 z.2.2.2.1
  rw [if_pos (fun z => by have := heq.mp z; omega)]
  obtain ⟨i, hi, rfl⟩ := inR_i3 h1
  obtain ⟨j, hj, rfl⟩ := inR_i3 h2
  obtain ⟨k, hk, rfl⟩ := inR_i3 h3
  have ei : q_nat (q_i3 i) = i := i3_toNat (by omega)
  have ej : q_nat (q_i3 j) = j := i3_toNat (by omega)
  have ek : q_nat (q_i3 k) = k := i3_toNat (by omega)
  unfold okN at eF no
  rw [ei, ej, ek] at eF no
  obtain ⟨p1, p2, p3, p4, p5⟩ := hM.2 i (by omega)
  rw [wp_bn, xgP12_14 hK, i3m6, i3_add, wp_bn, xl232 hK, i3_toNat (by omega), p5 j hj]
  refine ⟨inA_of (by omega) (by omega), ?_⟩
  have hcn := q_cnt_le (hldp (q_sN s) (q_i3 i) (q_i3 j)) (q_sN s).1
  rw [wp_ite]
  by_cases hs : - vPs (sM s) i j ≤ 0
  · rw [if_pos hs, wp_rt]
    refine no fun z => ?_
    have := z.2.2.2.2.2.2.2.2.2
    rw [Int32.lt_iff_toInt_lt, i3_toInt (by omega)] at this
    rw [Int32.le_iff_toInt_le, z0] at hs; omega
  rw [if_neg hs, wp_bn, xgP12_19 hK, wp_bn, xl274 hK, i3_toNat (by omega), (hL j hj).2.1]
  refine ⟨inA_of (by omega) hj, ?_⟩
  rw [wp_ite]
  by_cases h7 : (sG s).2 j = 0
  · rw [if_pos h7, wp_rt]; exact no fun z => z.2.2.2.2.2.2.1 h7
  rw [if_neg h7, wp_bn, xpR12 hK, wp_bn, wp_eq (r_latest hK hD hID hj), wp_ite]
  by_cases h8 : lat (sD s) j = -1
  · rw [if_pos h8, wp_rt]; exact no fun z => z.2.2.2.2.2.2.2.1 h8
  rw [if_neg h8, wp_bn, xgP12_31 hK, i3m4, i3p2, wp_bn, xl336 hK, i3_toNat (by omega), hR.2 k hk 2 (by omega)]
  refine ⟨inA_of (by omega) (by omega), ?_⟩
  rw [wp_ite]
  by_cases h5 : (sR s).2 k 2 = q_i3 i
  rotate_left
  · rw [if_pos h5, wp_rt]; exact no fun z => h5 z.2.2.2.2.2.1
  rw [if_neg (fun z => z h5), wp_bn, xgP12_31 hK, i3p3, wp_bn, xl336 hK, i3_toNat (by omega), hR.2 k hk 3 (by omega)]
  refine ⟨inA_of (by omega) (by omega), ?_⟩
  rw [wp_ite]
  by_cases h4 : (sR s).2 k 3 = 0
  · rw [if_pos h4, wp_rt]; exact no fun z => z.2.2.2.2.1 h4
  have hIL := (hI.2.1 j hj).1
  have hnt := hI.2.2.2.1.1
  rw [if_neg h4, wp_bn, xgP12_18 hK, wp_bn, xl264 hK, i3_toNat (by omega), (hL j hj).1]
  refine ⟨inA_of (by omega) hj, ?_⟩
  rw [wp_ite]
  have heq2 : q_i3 ((sG s).1 j).length = 0 ↔ ((sG s).1 j).length = 0 := i3_eq (b := 0) (by omega) (by omega)
  by_cases h9 : (sG s).1 j = []
  · rw [if_neg (fun z => z (heq2.mpr (by rw [h9]; rfl))), wp_rt]; exact no fun z => z.2.2.2.2.2.2.2.2.1 h9
  have hl0 : 0 < ((sG s).1 j).length := List.length_pos_iff.mpr h9
  rw [if_pos (fun z => by have := heq2.mp z; omega)]
  refine wp_loop (σ := Int32) (fun f t x => F_X12_notice_L128 f (b + 38) (q_i3 i) (q_i3 j) (q_i3 k) (- vPs (sM s) i j) x (q_i3 t)) (q_sN s).1 (fun t x ν => ν = μ ∧ x = q_i3 (q_cnt (hldp (q_sN s) (q_i3 i) (q_i3 j)) t)) _ ?_ ?_ FU 0 0 μ (by omega) (by show _ < 100000; omega) ⟨rfl, rfl⟩
  · rintro f x ν ⟨rfl, rfl⟩
    show q_wp (F_X12_notice_L128 (f + 1) (b + 38) (q_i3 i) (q_i3 j) (q_i3 k) (- vPs (sM s) i j) _ (q_i3 (q_sN s).1)) ν _
    unfold F_X12_notice_L128
    rw [wp_bn, xgI12 hK, show mI ν (64 * 12 + 34) (b + 38) = q_i3 (q_sN s).1 from hN.1, wp_ite, if_pos ((i3_le (by omega) (by omega)).mpr (Nat.le_refl _)), wp_ite]
    by_cases h10 : q_i3 (q_cnt (hldp (q_sN s) (q_i3 i) (q_i3 j)) (q_sN s).1) < - vPs (sM s) i j
    rotate_left
    · rw [if_neg h10, wp_rt]; exact no fun z => h10 z.2.2.2.2.2.2.2.2.2
    rw [if_pos h10]
    rw [if_pos ⟨h1, h2, h3, h6, h4, h5, h7, h8, h9, h10⟩] at eF
    have e0 : mI ν 802 (b + 38) = q_i3 (q_sN s).1 := hN.1
    obtain ⟨h, hh⟩ : ∃ h, h = (((sG s).1 j).getD 0 (0, 0)).1 := ⟨_, rfl⟩
    rw [← hh] at eF
    have eh : aI ν 248 (b + 50) (1600 * j) = h := by rw [hh]; exact ((hL j hj).2.2 0 hl0).1
    have bj : 1600 * j < 9600 := by omega
    have c0 : 7 * (q_sN s).1 < 560 := by omega
    have c1 : 7 * (q_sN s).1 + 1 < 560 := by omega
    have c2 : 7 * (q_sN s).1 + 2 < 560 := by omega
    have c3 : 7 * (q_sN s).1 + 3 < 560 := by omega
    have c4 : 7 * (q_sN s).1 + 4 < 560 := by omega
    have c5 : 7 * (q_sN s).1 + 5 < 560 := by omega
    have c6 : 7 * (q_sN s).1 + 6 < 560 := by omega
    have c7 : 4 * k + 3 < 240 := by omega
    simp (maxSteps := 2000000) (disch := first | assumption | omega | (simp only [K0_sI, K0_sL, K0_tI, K0_tL, K0_nE]; assumption)) only [wp_bn, wp_rt, wp_ite, wp_rz, xgI11, xgL11, xwI11, xpR11, xgI4, xgL4, xwI4, xpR4, xgI7, xgL7, xwI7, xpR7, xgI12, xgL12, xwI12, xpR12, xgP11_0, xgP11_1, xgP11_2, xgP11_3, xgP11_4, xgP11_5, xgP11_6, xgP11_7, xgP4_0, xl115, xs115, xgP4_9, xl120, xs120, xgP7_0, xgP7_1, xl136, xs136, xgP7_2, xl144, xs144, xgP12_0, xl160, xs160, xgP12_4, xl168, xs168, xgP12_5, xl176, xs176, xgP12_6, xl184, xs184, xgP12_7, xl192, xs192, xgP12_8, xl200, xs200, xgP12_11, xl209, xs209, xgP12_12, xl218, xs218, xgP12_13, xl226, xs226, xgP12_14, xl232, xs232, xgP12_15, xl241, xs241, xgP12_16, xl248, xs248, xgP12_17, xl256, xs256, xgP12_18, xl264, xs264, xgP12_19, xl274, xs274, xgP12_20, xl280, xs280, xgP12_22, xl288, xs288, xgP12_25, xl296, xs296, xgP12_26, xl305, xs305, xgP12_27, xl312, xs312, xgP12_28, xl321, xs321, xgP12_29, xl328, xs328, xgP12_31, xl336, xs336, xgP12_33, xl344, xs344, xgP12_46, xl352, xs352, xgP12_47, xl360, xs360, xgP2_0, xpL2_0, xgP2_1, xpL2_1, xgP2_2, xpL2_2, xgI2, xwZ2, xpR2, xmo, xpL_5, xpL_33, xpL_34, xpL_35, xpL_36, xpL_37, Nat.reduceMul, Nat.reduceAdd, mI_sI', mL_sL', mP_sP', aI_tI', aL_tL', aP_tP', mI_sL, mI_sP, mI_tI, mI_tL, mI_tP, mL_sI, mL_sP, mL_tI, mL_tL, mL_tP, mP_sI, mP_sL, mP_tI, mP_tL, mP_tP, aI_sI, aI_sL, aI_sP, aI_tL, aI_tP, aL_sI, aL_sL, aL_sP, aL_tI, aL_tP, aP_sI, aP_sL, aP_sP, aP_tI, aP_tL, mK_sI, mK_sL, mK_sP, mK_tI, mK_tL, mK_tP, mN_sI, mN_sL, mN_sP, mN_tI, mN_tL, mN_tP, mX_sI, mX_sL, mX_sP, mX_tI, mX_tL, mX_tP, mS_sI, mS_sL, mS_sP, mS_tI, mS_tL, mS_tP, mT_sI, mT_sL, mT_sP, mT_tI, mT_tL, mT_tP, e0, i3m2, i3m4, i3m5, i3m6, i3m7, i3m12, i3m60, i3m72, i3m1600, i3r6, i3p1, i3p2, i3p3, i3p4, i3p5, i3p6, i3p7, i3p8, i3p9, i3p20, i3_add, i3_mul, i3_toNat, inA_i3, i3_lt, i3_le, i3_eq, eh, bj, c0, c1, c2, c3, c4, c5, c6, c7, true_and]
    refine ⟨by rw [eF]; simp; exact i3_sub (a := (q_sN s).1 + 1) (b := 1) (by omega), ?_⟩
    rw [eF]
    exact r_nput hK hA hz hk
  · rintro f t x ν ht ⟨rfl, rfl⟩ ih
    show q_wp (F_X12_notice_L128 (f + 1) (b + 38) (q_i3 i) (q_i3 j) (q_i3 k) (- vPs (sM s) i j) _ (q_i3 t)) ν _
    unfold F_X12_notice_L128 F_X12_notice_L184
    have g0 : aI ν 344 (b + 62) (7 * t) = (q_sN s).2 t 0 := hN.2 t ht 0 (by omega)
    have g2 := hN.2 t ht 2 (by omega)
    have g5 := hN.2 t ht 5 (by omega)
    have c0 : 7 * t < 560 := by omega
    have c2 : 7 * t + 2 < 560 := by omega
    have c5 : 7 * t + 5 < 560 := by omega
    rw [wp_bn, xgI12 hK, show mI ν (64 * 12 + 34) (b + 38) = q_i3 (q_sN s).1 from hN.1, wp_ite, if_neg (fun z => by have := (i3_le (by omega) (by omega)).mp z; omega)]
    simp (maxSteps := 2000000) (disch := first | assumption | omega | (simp only [K0_sI, K0_sL, K0_tI, K0_tL, K0_nE]; assumption)) only [wp_bn, xgI11, xgL11, xwI11, xpR11, xgI4, xgL4, xwI4, xpR4, xgI7, xgL7, xwI7, xpR7, xgI12, xgL12, xwI12, xpR12, xgP11_0, xgP11_1, xgP11_2, xgP11_3, xgP11_4, xgP11_5, xgP11_6, xgP11_7, xgP4_0, xl115, xs115, xgP4_9, xl120, xs120, xgP7_0, xgP7_1, xl136, xs136, xgP7_2, xl144, xs144, xgP12_0, xl160, xs160, xgP12_4, xl168, xs168, xgP12_5, xl176, xs176, xgP12_6, xl184, xs184, xgP12_7, xl192, xs192, xgP12_8, xl200, xs200, xgP12_11, xl209, xs209, xgP12_12, xl218, xs218, xgP12_13, xl226, xs226, xgP12_14, xl232, xs232, xgP12_15, xl241, xs241, xgP12_16, xl248, xs248, xgP12_17, xl256, xs256, xgP12_18, xl264, xs264, xgP12_19, xl274, xs274, xgP12_20, xl280, xs280, xgP12_22, xl288, xs288, xgP12_25, xl296, xs296, xgP12_26, xl305, xs305, xgP12_27, xl312, xs312, xgP12_28, xl321, xs321, xgP12_29, xl328, xs328, xgP12_31, xl336, xs336, xgP12_33, xl344, xs344, xgP12_46, xl352, xs352, xgP12_47, xl360, xs360, xgP2_0, xpL2_0, xgP2_1, xpL2_1, xgP2_2, xpL2_2, xgI2, xwZ2, xpR2, xmo, xpL_5, xpL_33, xpL_34, xpL_35, xpL_36, xpL_37, Nat.reduceMul, Nat.reduceAdd, wp_ite, i3m2, i3m4, i3m5, i3m6, i3m7, i3m12, i3m60, i3m72, i3m1600, i3r6, i3p1, i3p2, i3p3, i3p4, i3p5, i3p6, i3p7, i3p8, i3p9, i3p20, i3_add, i3_mul, i3_toNat, inA_i3, i3_lt, i3_le, i3_eq, g0, g2, g5, c0, c2, c5, true_and]
    have step : ∀ y, y = q_i3 (q_cnt (hldp (q_sN s) (q_i3 i) (q_i3 j)) (t + 1)) → q_wp (F_X12_notice_L128 f (b + 38) (q_i3 i) (q_i3 j) (q_i3 k) (- vPs (sM s) i j) y (q_i3 (t + 1))) ν (fun x ν' => x = F.1 ∧ rOK ν b F.2 0 ν') := fun y hy => ih y ν ⟨rfl, hy⟩
    by_cases e1 : (q_sN s).2 t 0 = 1
    · rw [if_neg (fun z => z e1)]
      by_cases e2 : (q_sN s).2 t 2 = q_i3 i
      · rw [if_neg (fun z => z e2)]
        by_cases e3 : (q_sN s).2 t 5 = q_i3 j
        · rw [if_neg (fun z => z e3)]; exact step _ (by rw [cnt_succ]; unfold hldp; simp [e1, e2, e3])
        · rw [if_pos e3]; exact step _ (by rw [cnt_succ]; unfold hldp; simp [e3])
      · rw [if_pos e2]; exact step _ (by rw [cnt_succ]; unfold hldp; simp [e2])
    · rw [if_pos e1]; exact step _ (by rw [cnt_succ]; unfold hldp; simp [e1])
def was (had m : Int32) : Bool := decide ((had >>> (m &&& 31)) &&& 1 = 1)
def frm (l : List (Int32 × Int32)) (h : Int32) : Nat := l.findIdx fun q => q.1 == h
def nIx (l : List (Int32 × Int32)) (had : Int32) (k : Nat) : Nat := k + (l.drop k).findIdx fun q => ! was had q.1
def stI' (l : List (Int32 × Int32)) (h : Int32) : Nat := if frm l h < l.length then frm l h + 1 else 0
theorem c_firstLong {μ : Mem} {b j : Nat} {v : VL} {h : Int32} (hK : K0 μ b) (hW : WF μ) (hL : q_CL μ b v) (hj : j < 6) (hlen : (v.1 j).length ≤ 2000) : F_X2_firstLongOf (b + (9 + 4 * j)) h μ = some (if frm (v.1 j) h < (v.1 j).length then q_i3 (frm (v.1 j) h) else -1, μ) := by
  apply eq_wp
  unfold F_X2_firstLongOf
  obtain ⟨_, _, _, _, _, _, k12⟩ := hK.mo hj
  have hl := hL.len hj
  have hfle : frm (v.1 j) h ≤ (v.1 j).length := List.findIdx_le_length
  refine wp_loop (σ := Unit) (fun f k _ => F_X2_firstLongOf_L2 f (b + (9 + 4 * j)) h (q_i3 k)) (frm (v.1 j) h) (fun k _ ν => ν = μ) _ ?_ ?_ FU 0 () μ (by omega) (by show _ < 100000; omega) rfl
  · rintro f _ ν rfl
    show q_wp (F_X2_firstLongOf_L2 (f + 1) (b + (9 + 4 * j)) h (q_i3 (frm (v.1 j) h))) ν _
    unfold F_X2_firstLongOf_L2
    simp (maxSteps := 2000000) (disch := first | assumption | omega | (simp only [K0_sI, K0_sL, K0_tI, K0_tL, K0_nE]; assumption)) only [wp_bn, xgI11, xgL11, xwI11, xpR11, xgI4, xgL4, xwI4, xpR4, xgI7, xgL7, xwI7, xpR7, xgI12, xgL12, xwI12, xpR12, xgP11_0, xgP11_1, xgP11_2, xgP11_3, xgP11_4, xgP11_5, xgP11_6, xgP11_7, xgP4_0, xl115, xs115, xgP4_9, xl120, xs120, xgP7_0, xgP7_1, xl136, xs136, xgP7_2, xl144, xs144, xgP12_0, xl160, xs160, xgP12_4, xl168, xs168, xgP12_5, xl176, xs176, xgP12_6, xl184, xs184, xgP12_7, xl192, xs192, xgP12_8, xl200, xs200, xgP12_11, xl209, xs209, xgP12_12, xl218, xs218, xgP12_13, xl226, xs226, xgP12_14, xl232, xs232, xgP12_15, xl241, xs241, xgP12_16, xl248, xs248, xgP12_17, xl256, xs256, xgP12_18, xl264, xs264, xgP12_19, xl274, xs274, xgP12_20, xl280, xs280, xgP12_22, xl288, xs288, xgP12_25, xl296, xs296, xgP12_26, xl305, xs305, xgP12_27, xl312, xs312, xgP12_28, xl321, xs321, xgP12_29, xl328, xs328, xgP12_31, xl336, xs336, xgP12_33, xl344, xs344, xgP12_46, xl352, xs352, xgP12_47, xl360, xs360, xgP2_0, xpL2_0, xgP2_1, xpL2_1, xgP2_2, xpL2_2, xgI2, xwZ2, xpR2, xmo, xpL_5, xpL_33, xpL_34, xpL_35, xpL_36, xpL_37, wp_eq (ls_size hW k12), hl, wp_ite, i3m2, i3m4, i3m5, i3m6, i3m7, i3m12, i3m60, i3m72, i3m1600, i3r6, i3p1, i3p2, i3p3, i3p4, i3p5, i3p6, i3p7, i3p8, i3p9, i3p20, i3_add, i3_mul, i3_toNat, inA_i3, i3_lt, i3_le, i3_eq]
    by_cases e : frm (v.1 j) h < (v.1 j).length
    · obtain ⟨a1, a2, a3⟩ := hL.at hj e
      rw [if_neg (by omega), wp_eq (ls_get hW k12 (by omega)), wp_cst]
      refine ⟨a3, ?_⟩
      rw [wp_gI, show mI ν (64 * 9 + 0) ((q_lst ν (b + (12 + 4 * j))).getD (frm (v.1 j) h) 0) = ((v.1 j).getD (frm (v.1 j) h) (0, 0)).1 from a1]
      refine ⟨a3, ?_⟩
      have : ((v.1 j).getD (frm (v.1 j) h) (0, 0)).1 = h := by
        have := List.findIdx_getElem (p := fun q : Int32 × Int32 => q.1 == h) (xs := v.1 j) (w := e)
        change ((v.1 j)[frm (v.1 j) h].1 == h) = true at this
        rw [List.getD_eq_getElem?_getD, List.getElem?_eq_getElem e]
        simpa using this
      rw [if_neg (fun z => z this), wp_rt, if_pos e]; exact ⟨rfl, rfl⟩
    · rw [if_pos (by omega), wp_rt, if_neg e]; exact ⟨rfl, rfl⟩
  · rintro f k _ ν hk rfl ih
    show q_wp (F_X2_firstLongOf_L2 (f + 1) (b + (9 + 4 * j)) h (q_i3 k)) ν _
    unfold F_X2_firstLongOf_L2
    have hkl : k < (v.1 j).length := by omega
    obtain ⟨a1, a2, a3⟩ := hL.at hj hkl
    simp (maxSteps := 2000000) (disch := first | assumption | omega | (simp only [K0_sI, K0_sL, K0_tI, K0_tL, K0_nE]; assumption)) only [wp_bn, xgI11, xgL11, xwI11, xpR11, xgI4, xgL4, xwI4, xpR4, xgI7, xgL7, xwI7, xpR7, xgI12, xgL12, xwI12, xpR12, xgP11_0, xgP11_1, xgP11_2, xgP11_3, xgP11_4, xgP11_5, xgP11_6, xgP11_7, xgP4_0, xl115, xs115, xgP4_9, xl120, xs120, xgP7_0, xgP7_1, xl136, xs136, xgP7_2, xl144, xs144, xgP12_0, xl160, xs160, xgP12_4, xl168, xs168, xgP12_5, xl176, xs176, xgP12_6, xl184, xs184, xgP12_7, xl192, xs192, xgP12_8, xl200, xs200, xgP12_11, xl209, xs209, xgP12_12, xl218, xs218, xgP12_13, xl226, xs226, xgP12_14, xl232, xs232, xgP12_15, xl241, xs241, xgP12_16, xl248, xs248, xgP12_17, xl256, xs256, xgP12_18, xl264, xs264, xgP12_19, xl274, xs274, xgP12_20, xl280, xs280, xgP12_22, xl288, xs288, xgP12_25, xl296, xs296, xgP12_26, xl305, xs305, xgP12_27, xl312, xs312, xgP12_28, xl321, xs321, xgP12_29, xl328, xs328, xgP12_31, xl336, xs336, xgP12_33, xl344, xs344, xgP12_46, xl352, xs352, xgP12_47, xl360, xs360, xgP2_0, xpL2_0, xgP2_1, xpL2_1, xgP2_2, xpL2_2, xgI2, xwZ2, xpR2, xmo, xpL_5, xpL_33, xpL_34, xpL_35, xpL_36, xpL_37, wp_eq (ls_size hW k12), hl, wp_ite, i3m2, i3m4, i3m5, i3m6, i3m7, i3m12, i3m60, i3m72, i3m1600, i3r6, i3p1, i3p2, i3p3, i3p4, i3p5, i3p6, i3p7, i3p8, i3p9, i3p20, i3_add, i3_mul, i3_toNat, inA_i3, i3_lt, i3_le, i3_eq]
    rw [if_neg (by omega), wp_eq (ls_get hW k12 (by omega)), wp_cst]
    refine ⟨a3, ?_⟩
    rw [wp_gI, show mI ν (64 * 9 + 0) ((q_lst ν (b + (12 + 4 * j))).getD k 0) = ((v.1 j).getD k (0, 0)).1 from a1]
    refine ⟨a3, ?_⟩
    have : ¬ ((v.1 j).getD k (0, 0)).1 = h := by
      have := List.not_of_lt_findIdx (p := fun q : Int32 × Int32 => q.1 == h) hk
      rw [List.getD_eq_getElem?_getD, List.getElem?_eq_getElem hkl]
      simpa using this
    rw [if_pos this]
    exact ih () ν rfl

theorem nIx_step {l : List (Int32 × Int32)} {had : Int32} {k : Nat} (hk : k < l.length) : nIx l had k = if was had (l.getD k (0, 0)).1 = true then nIx l had (k + 1) else k := by
  unfold nIx
  rw [List.drop_eq_getElem_cons hk, List.findIdx_cons, List.getD_eq_getElem?_getD, List.getElem?_eq_getElem hk, Option.getD_some]
  by_cases h : was had l[k].1 = true
  · rw [h]; simp; omega
  · rw [if_neg h]; simp [h]
theorem nIx_end {l : List (Int32 × Int32)} {had : Int32} {k : Nat} (hk : l.length ≤ k) : nIx l had k = k := by
  unfold nIx; rw [List.drop_eq_nil_of_le hk]; rfl
theorem nIx_le {l : List (Int32 × Int32)} {had : Int32} {k : Nat} (hk : k ≤ l.length) : nIx l had k ≤ l.length ∧ k ≤ nIx l had k := by
  unfold nIx
  have := List.findIdx_le_length (p := fun q : Int32 × Int32 => ! was had q.1) (xs := l.drop k)
  rw [List.length_drop] at this
  omega
def hpo (o : Option Int32) : Int32 := o.getD (-1)
theorem c_nextL {μ : Mem} {b j r : Nat} {v : VL} {had : Int32} (hK : K0 μ b) (hW : WF μ) (hL : q_CL μ b v) (hj : j < 6) (hlen : (v.1 j).length ≤ 2000) (kr : mK μ r = 4) (hh : mI μ 198 r = had) : ∀ (d k f : Nat), k + d = (v.1 j).length → d < f → F_X11_nextHolder_L32 f (some r) (some (b + (12 + 4 * j))) (q_i3 k) μ = some (if nIx (v.1 j) had k < (v.1 j).length then ((v.1 j).getD (nIx (v.1 j) had k) (0, 0)).1 else -1, μ) := by
  obtain ⟨_, _, _, _, _, _, k12⟩ := hK.mo hj
  have hl := hL.len hj
  intro d
  induction d with
  | zero =>
    intro k f hk hf
    obtain ⟨f, rfl⟩ : ∃ g, f = g + 1 := ⟨f - 1, by omega⟩
    apply eq_wp
    unfold F_X11_nextHolder_L32
    rw [wp_bn, xpL2_2 hK hj, wp_bn, wp_eq (ls_size hW k12), hl, wp_ite, if_pos ((i3_le (by omega) (by omega)).mpr (by omega)), wp_rt, nIx_end (by omega), if_neg (by omega)]
    exact ⟨rfl, rfl⟩
  | succ d ih =>
    intro k f hk hf
    obtain ⟨f, rfl⟩ : ∃ g, f = g + 1 := ⟨f - 1, by omega⟩
    apply eq_wp
    unfold F_X11_nextHolder_L32 F_X3_wasWith
    have hkl : k < (v.1 j).length := by omega
    obtain ⟨a1, a2, a3⟩ := hL.at hj hkl
    rw [wp_bn, xpL2_2 hK hj, wp_bn, wp_eq (ls_size hW k12), hl, wp_ite, if_neg (fun z => by have := (i3_le (by omega) (by omega)).mp z; omega), wp_bn, xpL2_2 hK hj, wp_bn, wp_eq (ls_get hW k12 (by omega)), wp_bn, wp_cst]
    refine ⟨a3, ?_⟩
    rw [wp_bn, wp_gI, show mI μ (64 * 9 + 0) ((q_lst μ (b + (12 + 4 * j))).getD k 0) = ((v.1 j).getD k (0, 0)).1 from a1]
    refine ⟨a3, ?_⟩
    rw [wp_bn, wp_pRc]
    refine ⟨kr, ?_⟩
    rw [wp_bn, wp_bn, wp_gI, show mI μ (64 * 3 + 6) r = had from hh]
    refine ⟨kr, ?_⟩
    rw [wp_ite, nIx_step hkl]
    by_cases hw : was had ((v.1 j).getD k (0, 0)).1 = true
    · have hw' : (had >>> (((v.1 j).getD k (0, 0)).1 &&& 31)) &&& 1 = 1 := by unfold was at hw; simpa using hw
      rw [if_neg (fun z => z hw'), wp_rz]
      refine ⟨Or.inr rfl, ?_⟩
      rw [wp_ite, if_pos (by decide), i3_1, wp_eq (ih (k + 1) f (by omega) (by omega)), if_pos hw]
      exact ⟨rfl, rfl⟩
    · have hw' : ¬ (had >>> (((v.1 j).getD k (0, 0)).1 &&& 31)) &&& 1 = 1 := by unfold was at hw; simpa using hw
      rw [if_pos hw', wp_rz]
      refine ⟨Or.inl rfl, ?_⟩
      rw [wp_ite, if_neg (by decide), wp_rt, if_neg hw, if_pos hkl]; exact ⟨rfl, rfl⟩
theorem c_heldNotice {μ : Mem} {b : Nat} {v : q_VT} {p : Int32} (hK : K0 μ b) (hW : WF μ) (hN : q_CN μ b v) (hn : v.1 ≤ 80) : F_X11_heldNotice b p μ = some (if q_inR p v.1 ∧ v.2 (q_nat p) 0 = 1 then some ((q_lst μ (b + 36)).getD (q_nat p) 0) else none, μ) := by
  apply eq_wp
  unfold F_X11_heldNotice
  rw [wp_bn, xpR11 hK, wp_bn, wp_eq (c_noticeOf hK hW hN p), wp_ite]
  by_cases h : q_inR p v.1
  · obtain ⟨i, hi, rfl⟩ := inR_i3 h
    obtain ⟨g1, g2⟩ := hN.2 i hi
    have en : q_nat (q_i3 i) = i := i3_toNat (by omega)
    rw [if_pos h, if_neg (by simp), i3_toNat (by omega), wp_bn, wp_gI, show mI μ (64 * 3 + 5) ((q_lst μ (b + 36)).getD i 0) = v.2 i 0 from g2 0 (by omega)]
    refine ⟨g1, ?_⟩
    rw [wp_ite, en]
    by_cases e : v.2 i 0 = 1
    · rw [if_neg (fun z => z e), wp_rt, if_pos ⟨h, e⟩]; exact ⟨rfl, rfl⟩
    · rw [if_pos e, wp_rt, if_neg (fun z => e z.2)]; exact ⟨rfl, rfl⟩
  · rw [if_neg h, if_pos rfl, wp_rt, if_neg (fun z => h z.1)]; exact ⟨rfl, rfl⟩
theorem r_isHeld {μ : Mem} {b : Nat} {v : q_VT} {p : Int32} (hK : K0 μ b) (hN : q_RN μ b v) (hn : v.1 ≤ 80) : F_X12_isHeld (b + 38) p μ = some (if q_inR p v.1 ∧ v.2 (q_nat p) 0 = 1 then 1 else 0, μ) := by
  apply eq_wp
  unfold F_X12_isHeld
  rw [wp_bn, xgI12 hK, show mI μ (64 * 12 + 34) (b + 38) = q_i3 v.1 from hN.1, wp_bn, wp_eq (in_cnt (by omega)), wp_ite]
  by_cases h : q_inR p v.1
  · obtain ⟨i, hi, rfl⟩ := inR_i3 h
    have en : q_nat (q_i3 i) = i := i3_toNat (by omega)
    rw [if_pos h, if_neg (by decide), wp_bn, xgP12_33 hK, i3m7, wp_bn, xl344 hK, i3_toNat (by omega), show aI μ 344 (b + 62) (7 * i) = v.2 i 0 from hN.2 i hi 0 (by omega)]
    refine ⟨inA_of (by omega) (by omega), ?_⟩
    rw [wp_ite, en]
    by_cases e : v.2 i 0 = 1
    · rw [if_neg (fun z => z e), wp_rz, if_pos ⟨h, e⟩]; exact ⟨Or.inr rfl, rfl, rfl⟩
    · rw [if_pos e, wp_rz, if_neg (fun z => e z.2)]; exact ⟨Or.inl rfl, rfl, rfl⟩
  · rw [if_neg h, if_pos rfl, wp_rz, if_neg (fun z => h z.1)]; exact ⟨Or.inl rfl, rfl, rfl⟩
theorem upd2_comm {f : Nat → Nat → Int32} {i u w : Nat} {x y : Int32} (h : u ≠ w) : upd2 (upd2 f i u x) i w y = upd2 (upd2 f i w y) i u x := by
  funext a k
  unfold upd2
  by_cases e1 : a = i ∧ k = w
  · rw [if_pos e1, if_neg (fun z => h (by rw [← z.2, e1.2])), if_pos e1]
  · rw [if_neg e1]
    by_cases e2 : a = i ∧ k = u
    · rw [if_pos e2, if_pos e2]
    · rw [if_neg e2, if_neg e2, if_neg e1]
theorem q_CN.set {μ : Mem} {b i w : Nat} {v : q_VT} {x : Int32} (hK : K0 μ b) (hW : WF μ) (h : q_CN μ b v) (hi : i < v.1) (hw : w < 7) : q_CN (sI μ (nTag w) ((q_lst μ (b + 36)).getD i 0) x) b (v.1, upd2 v.2 i w x) ∧ Md [nTag w] μ (sI μ (nTag w) ((q_lst μ (b + 36)).getD i 0) x) ∧ q_lst (sI μ (nTag w) ((q_lst μ (b + 36)).getD i 0) x) = q_lst μ := by
  have inj : ∀ u : Fin 7, ∀ w : Fin 7, nTag u.1 = nTag w.1 → u.1 = w.1 := by decide
  have lt : ∀ w : Fin 7, nTag w.1 < 833 := by decide
  have hk : mK μ ((q_lst μ (b + 36)).getD i 0) ≠ 0 := by rw [(h.2 i hi).1]; omega
  exact ⟨TX.set hW (hK.k 36 14 (by decide)) h.tx hi hw (by omega) (fun u hu e => inj ⟨u, hu⟩ ⟨w, hw⟩ e) (lt ⟨w, hw⟩), Md.sI hk, (hW.sI hk (lt ⟨w, hw⟩)).2⟩
def passN (s : q_St) (i : Nat) (to : Int32) : q_VT := ((q_sN s).1, upd2 (upd2 (upd2 (q_sN s).2 i 1 to) i 4 ((q_sN s).2 i 4 + 1)) i 6 ((q_sN s).2 i 6 ||| ((1 : Int32) <<< (to &&& 31))))
def feeM (v : q_VM) (h t : Nat) (fee : Int32) : q_VM := mPaid (mPaid v h (vPd v h - fee.toInt64)) t (vPd (mPaid v h (vPd v h - fee.toInt64)) t + fee.toInt64)
def psL (s : q_St) (i : Nat) : List (Int32 × Int32) := (sG s).1 (q_nat ((q_sN s).2 i 5))
def psX (s : q_St) (i : Nat) : Nat := nIx (psL s i) ((q_sN s).2 i 6) (stI' (psL s i) ((q_sN s).2 i 1))
def psT (s : q_St) (i : Nat) : Int32 := ((psL s i).getD (psX s i) (0, 0)).1
def fPass (s : q_St) (p : Int32) : Int32 × q_St := if (q_inR p (q_sN s).1 ∧ (q_sN s).2 (q_nat p) 0 = 1) ∧ psX s (q_nat p) < (psL s (q_nat p)).length then (psT s (q_nat p), wM (q_wN s (passN s (q_nat p) (psT s (q_nat p)))) (feeM (sM s) (q_nat ((q_sN s).2 (q_nat p) 1)) (q_nat (psT s (q_nat p))) (q_rv (sU s) 5 (q_i3 (dT (sD s))) ((q_sN s).2 (q_nat p) 5) 0 ((q_sN s).2 (q_nat p) 4) 0 0))) else (-1, s)
theorem c_pass {μ : Mem} {b c : Nat} {s : q_St} (hK : K0 μ b) (hW : WF μ) (hA : q_AC μ b s) (hI : Iv s c) (hc : c ≤ 600) (p : Int32) : q_wp (F_X11_pass b p) μ (fun x ν => x = (fPass s p).1 ∧ cOK μ b (fPass s p).2 0 0 ν) := by
  obtain ⟨hM, hL, hO, hT, hD, hR, hN, hU, hP⟩ := id hA
  have hn := hI.1.1
  have hIN := hI.2.2.2.2.2.2.1
  have hnn := hIN.1
  have hnt := hI.2.2.2.1.1
  obtain ⟨F, eF⟩ : ∃ F, F = fPass s p := ⟨_, rfl⟩
  rw [← eF]
  unfold fPass at eF
  unfold F_X11_pass
  rw [wp_bn, xpR11 hK, wp_bn, wp_eq (c_heldNotice hK hW hN hnn), wp_ite]
  by_cases h : q_inR p (q_sN s).1 ∧ (q_sN s).2 (q_nat p) 0 = 1
  rotate_left
  · rw [if_neg (fun z => h z.1)] at eF
    rw [if_neg h, if_neg (by simp), wp_rt, eF]; exact ⟨rfl, cOK.rf hK hW hA⟩
  obtain ⟨i, hi, rfl⟩ := inR_i3 h.1
  have en : q_nat (q_i3 i) = i := i3_toNat (by omega)
  rw [if_pos h, if_pos (by simp)]
  rw [en] at eF h ⊢
  obtain ⟨g1, g2⟩ := hN.2 i hi
  obtain ⟨r, hr⟩ : ∃ r, r = (q_lst μ (b + 36)).getD i 0 := ⟨_, rfl⟩
  rw [← hr] at g1 g2 ⊢
  have g1' : mK μ r = 3 + 1 := g1
  obtain ⟨n1, n2, n3, n5, n6, n0⟩ := hIN.2 i hi
  obtain ⟨h1, hh1, eh⟩ := inR_i3 n1
  obtain ⟨j, hj, ej⟩ := inR_i3 n5
  have f5 : mI μ (64 * 3 + 1) r = q_i3 j := by rw [← ej]; exact g2 5 (by omega)
  have f1 : mI μ (64 * 3 + 3) r = q_i3 h1 := by rw [← eh]; exact g2 1 (by omega)
  have f6 : mI μ 198 r = (q_sN s).2 i 6 := g2 6 (by omega)
  have f4 : mI μ (64 * 3 + 4) r = (q_sN s).2 i 4 := g2 4 (by omega)
  have ejn : q_nat ((q_sN s).2 i 5) = j := by rw [ej]; exact i3_toNat (by omega)
  have hIL := hI.2.1 j hj
  have hlen : ((sG s).1 j).length ≤ 2000 := by have := hIL.1; omega
  have epl : psL s i = (sG s).1 j := by unfold psL; rw [ejn]
  have hX := nIx_le (had := (q_sN s).2 i 6) (show stI' ((sG s).1 j) (q_i3 h1) ≤ ((sG s).1 j).length by unfold stI'; split <;> omega)
  have eX : psX s i = nIx ((sG s).1 j) ((q_sN s).2 i 6) (stI' ((sG s).1 j) (q_i3 h1)) := by unfold psX; rw [epl, eh]
  rw [epl, eX] at eF
  unfold F_X11_nextHolder
  rw [wp_bn, xpR11 hK, wp_bn, wp_bn, xgP11_2 hK, wp_bn, wp_gI, f5]
  refine ⟨g1', ?_⟩
  rw [wp_bn, xmo hK hj, wp_bn, xgP2_2 hK hj, wp_bn, xgP11_2 hK, wp_bn, wp_gI, f5]
  refine ⟨g1', ?_⟩
  rw [wp_bn, xmo hK hj, wp_bn, wp_gI, f1]
  refine ⟨g1', ?_⟩
  have est : (if frm ((sG s).1 j) (q_i3 h1) < ((sG s).1 j).length then q_i3 (frm ((sG s).1 j) (q_i3 h1)) else -1) + 1 = q_i3 (stI' ((sG s).1 j) (q_i3 h1)) := by
    unfold stI'; split
    · exact i3_1 _
    · rfl
  rw [wp_bn, xpR2 hK hj, wp_bn, wp_eq (c_firstLong hK hW hL hj hlen), est, wp_eq (c_nextL hK hW hL hj hlen g1 f6 (((sG s).1 j).length - stI' ((sG s).1 j) (q_i3 h1)) (stI' ((sG s).1 j) (q_i3 h1)) FU (by unfold stI'; split <;> omega) (by show _ < 100000; omega)), wp_bn, wp_gI, f1]
  refine ⟨g1', ?_⟩
  rw [wp_bn, xpR11 hK, wp_bn, wp_eq (c_memberOf hK hW hM _), if_pos (i3_inR hh1 (by omega)), i3_toNat (by omega), wp_bn, xpR11 hK, wp_bn, wp_eq (c_memberOf hK hW hM _), wp_ite, if_neg (by simp), wp_ite]
  by_cases hx : nIx ((sG s).1 j) ((q_sN s).2 i 6) (stI' ((sG s).1 j) (q_i3 h1)) < ((sG s).1 j).length
  rotate_left
  · rw [if_neg (fun z => hx z.2)] at eF
    rw [if_neg hx]
    have hnr : ¬ q_inR (-1) (vN (sM s)) := by
      unfold q_inR; have : (-1 : Int32).toInt = -1 := rfl; omega
    rw [if_neg (by simp [hnr]), wp_rt, eF]; exact ⟨rfl, cOK.rf hK hW hA⟩
  rw [if_pos ⟨h, hx⟩] at eF
  rw [if_pos hx]
  have eT : psT s i = (((sG s).1 j).getD (nIx ((sG s).1 j) ((q_sN s).2 i 6) (stI' ((sG s).1 j) (q_i3 h1))) (0, 0)).1 := by unfold psT; rw [epl, eX]
  rw [← eT]
  have hmem : ((sG s).1 j).getD (nIx ((sG s).1 j) ((q_sN s).2 i 6) (stI' ((sG s).1 j) (q_i3 h1))) (0, 0) ∈ (sG s).1 j := by
    rw [List.getD_eq_getElem?_getD, List.getElem?_eq_getElem hx]; exact List.getElem_mem _
  have hto := (hIL.2.1 _ hmem).1
  rw [← eT] at hto
  obtain ⟨t, ht, et⟩ := inR_i3 hto
  rw [et] at eF ⊢
  have ent : q_nat (q_i3 t) = t := i3_toNat (by omega)
  have enh : q_nat ((q_sN s).2 i 1) = h1 := by rw [eh]; exact i3_toNat (by omega)
  rw [ent, enh, ej] at eF
  rw [if_pos (i3_inR ht (by omega)), if_pos (by simp), i3_toNat (by omega), wp_bn, xgP11_1 hK, wp_bn, xgI11 hK, show mI μ (64 * 11 + 8) b = q_i3 (dT (sD s)) from hD.1, wp_bn, wp_gI, f5]
  refine ⟨g1', ?_⟩
  rw [wp_bn, wp_gI, f4]
  refine ⟨g1', ?_⟩
  rw [wp_bn, xpR7 hK, wp_bn]
  refine q_wp_mono (c_valueOf hK hW hU) ?_
  rintro fee μ1 ⟨efee, md1⟩
  rw [← efee] at eF
  have K1 := md1.k0 hK
  obtain ⟨W1, l1⟩ := md1.wf hW rfl
  have M1 : q_CM μ1 b (sM s) := hM.fr md1.1 (by rw [l1]) rfl
  have N1 : q_CN μ1 b (q_sN s) := hN.fr md1.1 (by rw [l1]) rfl
  have er1 : ∀ k, mr μ b k = mr μ1 b k := fun k => by unfold mr; rw [l1]
  rw [er1 h1, er1 t]
  have mk1 := (M1.2 h1 hh1).1.1
  have mp1 := (M1.2 h1 hh1).2.1
  rw [wp_bn, wp_gL, show mL μ1 (64 * 1 + 2) (mr μ1 b h1) = vPd (sM s) h1 from mp1]
  refine ⟨mk1, ?_⟩
  rw [wp_bn, wp_wL]
  refine ⟨mk1, ?_⟩
  obtain ⟨μ2, e2⟩ : ∃ μ2, μ2 = sL μ1 66 (mr μ1 b h1) (vPd (sM s) h1 - fee.toInt64) := ⟨_, rfl⟩
  show q_wp _ (sL μ1 66 (mr μ1 b h1) (vPd (sM s) h1 - fee.toInt64)) _
  rw [← e2]
  have md2 : Md [66] μ1 μ2 := by rw [e2]; exact Md.sL (by omega)
  have K2 := md2.k0 K1
  obtain ⟨W2, l2⟩ := md2.wf W1 rfl
  have M2 : q_CM μ2 b (mPaid (sM s) h1 (vPd (sM s) h1 - fee.toInt64)) := by rw [e2]; exact M1.paid K1 W1 hh1 _
  have N2 : q_CN μ2 b (q_sN s) := N1.fr md2.1 (by rw [l2]) rfl
  have er2 : mr μ1 b t = mr μ2 b t := by unfold mr; rw [l2]
  rw [er2]
  have mk2 := (M2.2 t ht).1.1
  have mp2 := (M2.2 t ht).2.1
  rw [wp_bn, wp_gL, show mL μ2 (64 * 1 + 2) (mr μ2 b t) = vPd (mPaid (sM s) h1 (vPd (sM s) h1 - fee.toInt64)) t from mp2]
  refine ⟨mk2, ?_⟩
  rw [wp_bn, wp_wL]
  refine ⟨mk2, ?_⟩
  obtain ⟨μ3, e3⟩ : ∃ μ3, μ3 = sL μ2 66 (mr μ2 b t) (vPd (mPaid (sM s) h1 (vPd (sM s) h1 - fee.toInt64)) t + fee.toInt64) := ⟨_, rfl⟩
  show q_wp _ (sL μ2 66 (mr μ2 b t) (vPd (mPaid (sM s) h1 (vPd (sM s) h1 - fee.toInt64)) t + fee.toInt64)) _
  rw [← e3]
  have md3 : Md [66] μ2 μ3 := by rw [e3]; exact Md.sL (by omega)
  have K3 := md3.k0 K2
  obtain ⟨W3, l3⟩ := md3.wf W2 rfl
  have M3 : q_CM μ3 b (feeM (sM s) h1 t fee) := by rw [e3]; exact M2.paid K2 W2 ht _
  have N3 : q_CN μ3 b (q_sN s) := N2.fr md3.1 (by rw [l3]) rfl
  have lr : ∀ ν : Mem, q_lst ν = q_lst μ → (q_lst ν (b + 36)).getD i 0 = r := fun ν e => by rw [e, hr]
  have l30 : q_lst μ3 = q_lst μ := by rw [l3, l2, l1]
  obtain ⟨N4, md4, l4⟩ := N3.set (x := q_i3 t) K3 W3 hi (show 1 < 7 by omega)
  rw [lr μ3 l30] at N4 md4 l4
  obtain ⟨μ4, e4⟩ : ∃ μ4, μ4 = sI μ3 (nTag 1) r (q_i3 t) := ⟨_, rfl⟩
  rw [← e4] at N4 md4 l4
  have K4 := md4.k0 K3
  obtain ⟨W4, _⟩ := md4.wf W3 rfl
  have l40 : q_lst μ4 = q_lst μ := by rw [l4, l30]
  obtain ⟨N5, md5, l5⟩ := N4.set (x := (q_sN s).2 i 6 ||| ((1 : Int32) <<< (q_i3 t &&& 31))) K4 W4 hi (show 6 < 7 by omega)
  rw [lr μ4 l40] at N5 md5 l5
  obtain ⟨μ5, e5⟩ : ∃ μ5, μ5 = sI μ4 (nTag 6) r ((q_sN s).2 i 6 ||| ((1 : Int32) <<< (q_i3 t &&& 31))) := ⟨_, rfl⟩
  rw [← e5] at N5 md5 l5
  have K5 := md5.k0 K4
  obtain ⟨W5, _⟩ := md5.wf W4 rfl
  have l50 : q_lst μ5 = q_lst μ := by rw [l5, l40]
  obtain ⟨N6, md6, l6⟩ := N5.set (x := (q_sN s).2 i 4 + 1) K5 W5 hi (show 4 < 7 by omega)
  rw [lr μ5 l50] at N6 md6 l6
  obtain ⟨μ6, e6⟩ : ∃ μ6, μ6 = sI μ5 (nTag 4) r ((q_sN s).2 i 4 + 1) := ⟨_, rfl⟩
  rw [← e6] at N6 md6 l6
  have k3 : mK μ3 r = 3 + 1 := by rw [md3.2.2.1, md2.2.2.1, md1.2.2.1]; exact g1'
  have k4 : mK μ4 r = 3 + 1 := by rw [md4.2.2.1]; exact k3
  have k5 : mK μ5 r = 3 + 1 := by rw [md5.2.2.1]; exact k4
  unfold F_X3_handTo
  rw [wp_bn, wp_pRc]
  refine ⟨k3, ?_⟩
  rw [wp_bn, wp_bn, wp_wI]
  refine ⟨k3, ?_⟩
  show q_wp _ (sI μ3 (nTag 1) r (q_i3 t)) _
  rw [← e4, wp_bn, wp_gI, show mI μ4 (64 * 3 + 6) r = (q_sN s).2 i 6 by rw [e4, mI_sI', if_neg (fun z => absurd z.1 (by decide)), md3.1.i _ rfl, md2.1.i _ rfl, md1.1.i _ rfl]; exact f6]
  refine ⟨k4, ?_⟩
  rw [wp_bn, wp_wI]
  refine ⟨k4, ?_⟩
  show q_wp _ (sI μ4 (nTag 6) r ((q_sN s).2 i 6 ||| ((1 : Int32) <<< (q_i3 t &&& 31)))) _
  rw [← e5, wp_bn, wp_gI, show mI μ5 (64 * 3 + 4) r = (q_sN s).2 i 4 by rw [e5, mI_sI', if_neg (fun z => absurd z.1 (by decide)), e4, mI_sI', if_neg (fun z => absurd z.1 (by decide)), md3.1.i _ rfl, md2.1.i _ rfl, md1.1.i _ rfl]; exact f4]
  refine ⟨k5, ?_⟩
  rw [wp_bn, wp_wI, wp_rt, wp_rt]
  refine ⟨k5, by rw [eF], ?_⟩
  show cOK μ b F.2 0 0 (sI μ5 (nTag 4) r ((q_sN s).2 i 4 + 1))
  rw [← e6, eF]
  have mdA := (((md1.tr md2).tr md3).tr md4).tr (md5.tr md6)
  have hC := mdA.cs (b := b) hW rfl
  refine cOK.of hK ⟨?_, hL.fr hC.2.1 (fun i hi => hC.2.2.1 _ (lgO_lo hi) (lgNo (by decide) hi)) rfl, hO.fr hC.2.1 (fun i hi s => hC.2.2.1 _ (sdO_lo hi s) (sdNo (by decide) hi s)) rfl, hT.fr hC.2.1 (hC.2.2.1 34 (by decide) (by decide)) rfl, hD.fr hC.2.1 (hC.2.2.1 37 (by decide) (by decide)) rfl, hR.fr hC.2.1 (hC.2.2.1 35 (by decide) (by decide)) rfl, ?_, hU.fr hC.2.1 (hC.2.2.1 5 (by decide) (by decide)) rfl, hP.fr hC.2.1 rfl⟩ hC rfl rfl
  · exact M3.fr ((md4.tr (md5.tr md6)).1) (by rw [l6, l5, l4]) rfl
  · show q_CN μ6 b (passN s i (q_i3 t))
    unfold passN
    rw [upd2_comm (show 4 ≠ 6 by omega)]; exact N6
