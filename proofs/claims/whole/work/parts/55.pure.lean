abbrev Rt : Type := Int32 × Int32 × Int32 × Int32
def stp (j d k : Int32) (x : Int32) (q : Rt) : Int32 := if q.1 = j ∧ q.2.1 = d ∧ ¬ k < q.2.2.2 then q.2.2.1 else x
def q_stOf (v : VD) (j d : Nat) (k : Int32) : Int32 := (dRt v).foldl (stp (q_i3 j) (q_i3 d) k) (dSt v d j)
def lkC : List (Int32 × Int32) → Int32 → Int32
  | [], _ => 0
  | q :: l, k => if k < q.2 then lkC l k else q.1
def pz (x : Int32) : Int32 := if x = -1 then 0 else x
def lat (v : VD) (j : Nat) : Int32 := if dT v = 0 then -1 else q_stOf v j (dT v - 1) (q_i3 (dT v))
def hdP : List (Int32 × Int32) → Int32
  | [] => 0
  | q :: _ => q.1
theorem lkC_app (l m : List (Int32 × Int32)) (k : Int32) : lkC (l ++ m) k = if ∃ q, q ∈ l ∧ ¬ k < q.2 then lkC l k else lkC m k := by
  induction l with
  | nil => simp
  | cons q l ih =>
    show (if k < q.2 then lkC (l ++ m) k else q.1) = if _ then (if k < q.2 then lkC l k else q.1) else lkC m k
    by_cases h : k < q.2
    · rw [if_pos h, if_pos h, ih]
      have : (∃ q', q' ∈ q :: l ∧ ¬ k < q'.2) ↔ ∃ q', q' ∈ l ∧ ¬ k < q'.2 := by
        constructor
        · rintro ⟨a, ha, hb⟩
          rcases List.mem_cons.mp ha with e | e
          · rw [e] at hb; exact absurd h hb
          · exact ⟨a, e, hb⟩
        · rintro ⟨a, ha, hb⟩; exact ⟨a, List.mem_cons_of_mem _ ha, hb⟩
      simp only [this]
    · rw [if_neg h, if_neg h, if_pos ⟨q, List.mem_cons_self, h⟩]
theorem fold_lk (rt : List Rt) (j d k x : Int32) (h : ¬ k < d) : rt.foldl (stp j d k) x = lkC (((rt.filter fun q => q.1 = j ∧ q.2.1 = d).map fun q => (q.2.2.1, q.2.2.2)).reverse ++ [(x, d)]) k := by
  induction rt generalizing x with
  | nil => simp [lkC, h]
  | cons q rt ih =>
    rw [List.foldl_cons, ih]
    by_cases hq : q.1 = j ∧ q.2.1 = d
    · rw [List.filter_cons, if_pos (by simpa using hq), List.map_cons, List.reverse_cons, List.append_assoc, lkC_app, lkC_app]
      by_cases he : ∃ r, r ∈ ((rt.filter fun q => q.1 = j ∧ q.2.1 = d).map fun q => (q.2.2.1, q.2.2.2)).reverse ∧ ¬ k < r.2
      · rw [if_pos he, if_pos he]
      · rw [if_neg he, if_neg he]
        unfold stp
        by_cases hk : k < q.2.2.2
        · rw [if_neg (fun z => z.2.2 hk)]; simp [lkC, hk]
        · rw [if_pos ⟨hq.1, hq.2, hk⟩]; simp [lkC, hk, h]
    · rw [List.filter_cons, if_neg (by simpa using hq)]
      unfold stp
      rw [if_neg (fun z => hq ⟨z.1, z.2.1⟩)]
theorem st_lk {v : VD} {n j d : Nat} {k : Int32} (hI : ID v n) (hj : j < 6) (hd : d < dT v) (hk : ¬ k < q_i3 d) : lkC (chn v d j) k = pz (q_stOf v j d k) ∧ (dSt v d j = -1 → q_stOf v j d k = -1) ∧ (dSt v d j ≠ -1 → 1 ≤ (q_stOf v j d k).toInt ∧ (q_stOf v j d k).toInt ≤ 10000) := by
  obtain ⟨i1, i2, i3', i4, i5⟩ := hI
  have em : (-1 : Int32).toInt = -1 := rfl
  have rng : ∀ (rt : List Rt) (x : Int32), (∀ q, q ∈ rt → 1 ≤ q.2.2.1.toInt ∧ q.2.2.1.toInt ≤ 10000) → 1 ≤ x.toInt ∧ x.toInt ≤ 10000 → 1 ≤ (rt.foldl (stp (q_i3 j) (q_i3 d) k) x).toInt ∧ (rt.foldl (stp (q_i3 j) (q_i3 d) k) x).toInt ≤ 10000 := by
    intro rt
    induction rt with
    | nil => intro x _ h; exact h
    | cons q rt ih =>
      intro x h1 h2
      rw [List.foldl_cons]
      apply ih
      · exact fun q hq => h1 q (List.mem_cons_of_mem _ hq)
      · unfold stp; split
        · exact h1 q List.mem_cons_self
        · exact h2
  have none : ∀ (rt : List Rt) (x : Int32), (∀ q, q ∈ rt → ¬ (q.1 = q_i3 j ∧ q.2.1 = q_i3 d)) → rt.foldl (stp (q_i3 j) (q_i3 d) k) x = x := by
    intro rt
    induction rt with
    | nil => intro x _; rfl
    | cons q rt ih =>
      intro x h1
      rw [List.foldl_cons, ih _ fun q hq => h1 q (List.mem_cons_of_mem _ hq)]
      unfold stp
      rw [if_neg (fun z => h1 q List.mem_cons_self ⟨z.1, z.2.1⟩)]
  have hno : dSt v d j = -1 → ∀ q, q ∈ dRt v → ¬ (q.1 = q_i3 j ∧ q.2.1 = q_i3 d) := by
    rintro h q hq ⟨e1, e2⟩
    have := (i4 q hq).2.2.2.2.2.2
    rw [e1, e2, i3_toNat (by omega), i3_toNat (by omega)] at this
    exact this h
  refine ⟨?_, fun h => ?_, fun h => ?_⟩
  · unfold chn q_stOf pz
    by_cases h : dSt v d j = -1
    · rw [if_pos h, none _ _ (hno h), if_pos h]; rfl
    · rw [if_neg h, ← fold_lk _ _ _ _ _ hk]
      have := rng (dRt v) (dSt v d j) (fun q hq => ⟨(i4 q hq).2.2.1, (i4 q hq).2.2.2.1⟩) (((i3' d hd).2.1 j hj).resolve_left h)
      rw [if_neg (fun z => by rw [z] at this; omega)]
  · unfold q_stOf; rw [none _ _ (hno h)]; exact h
  · exact rng (dRt v) (dSt v d j) (fun q hq => ⟨(i4 q hq).2.2.1, (i4 q hq).2.2.2.1⟩) (((i3' d hd).2.1 j hj).resolve_left h)
theorem hd_lk {l : List (Int32 × Int32)} {k : Int32} (h : ∀ q, q ∈ l → ¬ k < q.2) : hdP l = lkC l k := by
  cases l with
  | nil => rfl
  | cons q l => unfold hdP lkC; rw [if_neg (h q List.mem_cons_self)]
theorem hd_lat {v : VD} {n j : Nat} (hI : ID v n) (hj : j < 6) (hd : 0 < dT v) : hdP (chn v (dT v - 1) j) = pz (lat v j) := by
  have hk : ¬ q_i3 (dT v) < q_i3 (dT v - 1) := fun z => by have := hI.1; have := (i3_lt (by omega) (by omega)).mp z; omega
  unfold lat
  rw [if_neg (by omega), ← (st_lk hI hj (by omega) hk).1]
  apply hd_lk
  intro q hq
  have h1 := hI.1
  unfold chn at hq
  split at hq
  · exact absurd hq (by simp)
  · rcases List.mem_append.mp hq with hq | hq
    · rw [List.mem_reverse, List.mem_map] at hq
      obtain ⟨r, hr, e⟩ := hq
      have hr := (List.mem_filter.mp hr).1
      have := (hI.2.2.2.1 r hr).2.2.2.2.1
      rw [← e, Int32.lt_iff_toInt_lt, i3_toInt (by omega)]
      show ¬ _ < r.2.2.2.toInt
      omega
    · rw [List.mem_singleton.mp hq]; exact hk
def CDx (μ : Mem) (b : Nat) (v : VD) : Prop := mI μ 714 b = q_i3 (dRt v).length ∧ (q_lst μ (b + 37)).length = dT v ∧ ∀ d, d < dT v → DO μ (dy μ b d) (dNm v d) ∧ (∀ j, j < 6 → Ch μ (aP μ 86 (dy μ b d + 1) j) (chn v d j)) ∧ ∀ i, i < dNm v d → aL μ 97 (dy μ b d + 3) i = dBa v d i ∧ ∀ j, j < 6 → aI μ 88 (dy μ b d + 2) (6 * i + j) = dPs v d i j
theorem q_CD.x {μ : Mem} {b : Nat} {v : VD} (h : q_CD μ b v) : CDx μ b v := h.2
theorem CDx.k {μ : Mem} {b : Nat} {v : VD} (h : CDx μ b v) {d : Nat} (hd : d < dT v) : mK μ ((q_lst μ (b + 37)).getD d 0) = 1 := (h.2.2 d hd).1.1
theorem c_latestPrice {μ : Mem} {b j : Nat} {v : VD} (hK : K0 μ b) (hW : WF μ) (hD : CDx μ b v) (hj : j < 6) : F_X11_latestPrice b (q_i3 j) μ = some (if dT v = 0 then 0 else hdP (chn v (dT v - 1) j), μ) := by
  apply eq_wp
  unfold F_X11_latestPrice
  have k37 := hK.k 37 14 (by decide)
  have hb := (hW.ls k37).2.1
  rw [hD.2.1] at hb
  rw [wp_bn, xgP11_7 hK, wp_bn, xpL_37 hK, wp_bn, wp_eq (ls_empty hW k37), hD.2.1, wp_ite]
  by_cases h0 : dT v = 0
  · simp only [h0, if_true]; rw [if_neg (by decide), wp_rt]; exact ⟨rfl, rfl⟩
  · simp only [h0, if_false, if_true]
    obtain ⟨⟨d1, d2, d3, d4, d5, d6, d7, d8, d9, d10⟩, g1, g2⟩ := hD.2.2 (dT v - 1) (by omega)
    have e1 : q_i3 (dT v) - 1 = q_i3 (dT v - 1) := i3_sub (a := dT v) (b := 1) (by omega)
    have d1' : mK μ ((q_lst μ (b + 37)).getD (dT v - 1) 0) = 1 := d1
    have d2' : mP μ (64 * 0 + 0) ((q_lst μ (b + 37)).getD (dT v - 1) 0) = some (dy μ b (dT v - 1) + 1) := d2
    have hlt : dT v - 1 < (q_lst μ (b + 37)).length := by rw [hD.2.1]; omega
    simp (maxSteps := 2000000) (disch := first | assumption | omega | (simp only [K0_sI, K0_sL, K0_tI, K0_tL, K0_nE]; assumption)) only [wp_bn, xgI11, xgL11, xwI11, xpR11, xgI4, xgL4, xwI4, xpR4, xgI7, xgL7, xwI7, xpR7, xgI12, xgL12, xwI12, xpR12, xgP11_0, xgP11_1, xgP11_2, xgP11_3, xgP11_4, xgP11_5, xgP11_6, xgP11_7, xgP4_0, xl115, xs115, xgP4_9, xl120, xs120, xgP7_0, xgP7_1, xl136, xs136, xgP7_2, xl144, xs144, xgP12_0, xl160, xs160, xgP12_4, xl168, xs168, xgP12_5, xl176, xs176, xgP12_6, xl184, xs184, xgP12_7, xl192, xs192, xgP12_8, xl200, xs200, xgP12_11, xl209, xs209, xgP12_12, xl218, xs218, xgP12_13, xl226, xs226, xgP12_14, xl232, xs232, xgP12_15, xl241, xs241, xgP12_16, xl248, xs248, xgP12_17, xl256, xs256, xgP12_18, xl264, xs264, xgP12_19, xl274, xs274, xgP12_20, xl280, xs280, xgP12_22, xl288, xs288, xgP12_25, xl296, xs296, xgP12_26, xl305, xs305, xgP12_27, xl312, xs312, xgP12_28, xl321, xs321, xgP12_29, xl328, xs328, xgP12_31, xl336, xs336, xgP12_33, xl344, xs344, xgP12_46, xl352, xs352, xgP12_47, xl360, xs360, xgP2_0, xpL2_0, xgP2_1, xpL2_1, xgP2_2, xpL2_2, xgI2, xwZ2, xpR2, xmo, xpL_5, xpL_33, xpL_34, xpL_35, xpL_36, xpL_37, wp_eq (ls_size hW k37), hD.2.1, e1, wp_eq (ls_get hW k37 hlt), wp_cst, d1', true_and]
    rw [wp_gP, d2', wp_lP, d5, d8, inA_i3 (by omega), i3_toNat (by omega)]
    refine ⟨d1', rfl, hj, ?_⟩
    have hc := g1 j hj
    cases hl : chn v (dT v - 1) j with
    | nil =>
      rw [hl] at hc
      have hc : aP μ 86 (dy μ b (dT v - 1) + 1) j = none := hc
      rw [hc, wp_ite, if_neg (fun z => z rfl), wp_rt]; exact ⟨rfl, rfl⟩
    | cons q l =>
      rw [hl] at hc
      obtain ⟨r, hr, k9, p1, p2, p3⟩ := hc
      rw [hr, wp_ite, if_pos (by simp), wp_bn, wp_gI, wp_rt]
      exact ⟨k9, p1, rfl⟩
theorem c_chain {μ : Mem} {k : Int32} : ∀ (l : List (Int32 × Int32)) (p : Option Nat) (f : Nat), Ch μ p l → l.length < f → F_X11_priceOn_L18 f k p μ = some (lkC l k, μ)
  | [], p, f, h, hf => by
    obtain ⟨f, rfl⟩ : ∃ g, f = g + 1 := ⟨f - 1, by omega⟩
    have h : p = none := h
    apply eq_wp
    unfold F_X11_priceOn_L18 F_X11_priceOn_L42
    rw [wp_ite, if_pos h, wp_ite, if_neg (fun z => z h), wp_rt]; exact ⟨rfl, rfl⟩
  | q :: l, p, f, h, hf => by
    obtain ⟨f, rfl⟩ : ∃ g, f = g + 1 := ⟨f - 1, by omega⟩
    obtain ⟨r, hr, k9, p1, p2, p3⟩ := h
    have k9' : mK μ r = 8 + 1 := k9
    have p1' : mI μ (64 * 8 + 0) r = q.1 := p1
    have p2' : mI μ (64 * 8 + 1) r = q.2 := p2
    apply eq_wp
    unfold F_X11_priceOn_L18 F_X11_priceOn_L42
    rw [hr, wp_ite, if_neg (by simp), wp_bn, wp_gI, p2']
    refine ⟨k9', ?_⟩
    rw [wp_ite]
    unfold lkC
    by_cases e : k < q.2
    · have hle : ¬ q.2 ≤ k := by rw [Int32.le_iff_toInt_le]; rw [Int32.lt_iff_toInt_lt] at e; omega
      rw [if_neg hle, if_pos e, wp_bn, wp_gP]
      refine ⟨k9', ?_⟩
      rw [wp_eq (c_chain l _ f p3 (by simp at hf; omega))]; exact ⟨rfl, rfl⟩
    · have hle : q.2 ≤ k := by rw [Int32.le_iff_toInt_le]; rw [Int32.lt_iff_toInt_lt] at e; omega
      rw [if_pos hle, if_neg e, wp_ite, if_pos (by simp), wp_bn, wp_gI, p1', wp_rt]
      exact ⟨k9', rfl, rfl⟩
theorem c_priceOn {μ : Mem} {b j d n : Nat} {k : Int32} {v : VD} (hK : K0 μ b) (hW : WF μ) (hD : CDx μ b v) (hI : ID v n) (hj : j < 6) (hd : d < dT v) (hk : ¬ k < q_i3 d) : F_X11_priceOn b (q_i3 j) (q_i3 d) k μ = some (pz (q_stOf v j d k), μ) := by
  apply eq_wp
  unfold F_X11_priceOn
  have k37 := hK.k 37 14 (by decide)
  have hb := hI.1
  obtain ⟨⟨d1, d2, d3, d4, d5, d6, d7, d8, d9, d10⟩, g1, g2⟩ := hD.2.2 d hd
  have d1' : mK μ ((q_lst μ (b + 37)).getD d 0) = 1 := d1
  have d2' : mP μ (64 * 0 + 0) ((q_lst μ (b + 37)).getD d 0) = some (dy μ b d + 1) := d2
  have hlt : d < (q_lst μ (b + 37)).length := by rw [hD.2.1]; omega
  simp (maxSteps := 2000000) (disch := first | assumption | omega | (simp only [K0_sI, K0_sL, K0_tI, K0_tL, K0_nE]; assumption)) only [wp_bn, xgI11, xgL11, xwI11, xpR11, xgI4, xgL4, xwI4, xpR4, xgI7, xgL7, xwI7, xpR7, xgI12, xgL12, xwI12, xpR12, xgP11_0, xgP11_1, xgP11_2, xgP11_3, xgP11_4, xgP11_5, xgP11_6, xgP11_7, xgP4_0, xl115, xs115, xgP4_9, xl120, xs120, xgP7_0, xgP7_1, xl136, xs136, xgP7_2, xl144, xs144, xgP12_0, xl160, xs160, xgP12_4, xl168, xs168, xgP12_5, xl176, xs176, xgP12_6, xl184, xs184, xgP12_7, xl192, xs192, xgP12_8, xl200, xs200, xgP12_11, xl209, xs209, xgP12_12, xl218, xs218, xgP12_13, xl226, xs226, xgP12_14, xl232, xs232, xgP12_15, xl241, xs241, xgP12_16, xl248, xs248, xgP12_17, xl256, xs256, xgP12_18, xl264, xs264, xgP12_19, xl274, xs274, xgP12_20, xl280, xs280, xgP12_22, xl288, xs288, xgP12_25, xl296, xs296, xgP12_26, xl305, xs305, xgP12_27, xl312, xs312, xgP12_28, xl321, xs321, xgP12_29, xl328, xs328, xgP12_31, xl336, xs336, xgP12_33, xl344, xs344, xgP12_46, xl352, xs352, xgP12_47, xl360, xs360, xgP2_0, xpL2_0, xgP2_1, xpL2_1, xgP2_2, xpL2_2, xgI2, xwZ2, xpR2, xmo, xpL_5, xpL_33, xpL_34, xpL_35, xpL_36, xpL_37, wp_eq (ls_get hW k37 hlt), wp_cst, d1', true_and]
  rw [wp_gP, d2', wp_lP, d5, d8, inA_i3 (by omega), i3_toNat (by omega)]
  refine ⟨d1', rfl, hj, ?_⟩
  rw [← (st_lk hI hj hd hk).1]
  have hlen : (chn v d j).length < FU := by
    have := hI.2.1
    unfold chn; split
    · show 0 < 100000; omega
    · rw [List.length_append, List.length_reverse, List.length_map]
      refine Nat.lt_of_le_of_lt (Nat.add_le_add_right (List.length_filter_le _ _) 1) ?_
      show _ < 100000; omega
  rw [wp_eq (c_chain _ _ _ (g1 j hj) hlen)]; exact ⟨rfl, rfl⟩
theorem foldl_take {α : Type} (f : α → Rt → α) (x : α) (l : List Rt) (k : Nat) (hk : k < l.length) : (l.take (k + 1)).foldl f x = f ((l.take k).foldl f x) (l.getD k q_q4) := by
  rw [List.take_succ, List.getElem?_eq_getElem hk, List.foldl_append, List.getD_eq_getElem?_getD, List.getElem?_eq_getElem hk]; rfl
theorem r_settleOf {μ : Mem} {b j d n : Nat} {k : Int32} {v : VD} (hK : K0 μ b) (hD : RD μ b v) (hI : ID v n) (hj : j < 6) (hd : d < dT v) : F_X12_settleOf (b + 38) (q_i3 j) (q_i3 d) k μ = some (q_stOf v j d k, μ) := by
  apply eq_wp
  unfold F_X12_settleOf
  obtain ⟨h1, h2, h3, h4⟩ := hD
  have hb := hI.1
  have hl := hI.2.1
  have hlt : 6 * d + j < 906 := by omega
  simp (maxSteps := 2000000) (disch := first | assumption | omega | (simp only [K0_sI, K0_sL, K0_tI, K0_tL, K0_nE]; assumption)) only [wp_bn, xgI11, xgL11, xwI11, xpR11, xgI4, xgL4, xwI4, xpR4, xgI7, xgL7, xwI7, xpR7, xgI12, xgL12, xwI12, xpR12, xgP11_0, xgP11_1, xgP11_2, xgP11_3, xgP11_4, xgP11_5, xgP11_6, xgP11_7, xgP4_0, xl115, xs115, xgP4_9, xl120, xs120, xgP7_0, xgP7_1, xl136, xs136, xgP7_2, xl144, xs144, xgP12_0, xl160, xs160, xgP12_4, xl168, xs168, xgP12_5, xl176, xs176, xgP12_6, xl184, xs184, xgP12_7, xl192, xs192, xgP12_8, xl200, xs200, xgP12_11, xl209, xs209, xgP12_12, xl218, xs218, xgP12_13, xl226, xs226, xgP12_14, xl232, xs232, xgP12_15, xl241, xs241, xgP12_16, xl248, xs248, xgP12_17, xl256, xs256, xgP12_18, xl264, xs264, xgP12_19, xl274, xs274, xgP12_20, xl280, xs280, xgP12_22, xl288, xs288, xgP12_25, xl296, xs296, xgP12_26, xl305, xs305, xgP12_27, xl312, xs312, xgP12_28, xl321, xs321, xgP12_29, xl328, xs328, xgP12_31, xl336, xs336, xgP12_33, xl344, xs344, xgP12_46, xl352, xs352, xgP12_47, xl360, xs360, xgP2_0, xpL2_0, xgP2_1, xpL2_1, xgP2_2, xpL2_2, xgI2, xwZ2, xpR2, xmo, xpL_5, xpL_33, xpL_34, xpL_35, xpL_36, xpL_37, i3m2, i3m4, i3m5, i3m6, i3m7, i3m12, i3m60, i3m72, i3m1600, i3r6, i3p1, i3p2, i3p3, i3p4, i3p5, i3p6, i3p7, i3p8, i3p9, i3p20, i3_add, i3_mul, i3_toNat, inA_i3, i3_lt, i3_le, i3_eq, hlt, true_and, (h3 d hd).1 j hj]
  refine wp_loop (σ := Int32) (fun f i x => F_X12_settleOf_L16 f (b + 38) (q_i3 j) (q_i3 d) k x (q_i3 i)) (dRt v).length (fun i x ν => ν = μ ∧ x = ((dRt v).take i).foldl (stp (q_i3 j) (q_i3 d) k) (dSt v d j)) _ ?_ ?_ FU 0 _ μ (by omega) (by show _ < 100000; omega) ⟨rfl, rfl⟩
  · rintro f x ν ⟨rfl, rfl⟩
    show q_wp (F_X12_settleOf_L16 (f + 1) (b + 38) (q_i3 j) (q_i3 d) k _ (q_i3 (dRt v).length)) ν _
    unfold F_X12_settleOf_L16
    simp (maxSteps := 2000000) (disch := first | assumption | omega | (simp only [K0_sI, K0_sL, K0_tI, K0_tL, K0_nE]; assumption)) only [wp_bn, xgI11, xgL11, xwI11, xpR11, xgI4, xgL4, xwI4, xpR4, xgI7, xgL7, xwI7, xpR7, xgI12, xgL12, xwI12, xpR12, xgP11_0, xgP11_1, xgP11_2, xgP11_3, xgP11_4, xgP11_5, xgP11_6, xgP11_7, xgP4_0, xl115, xs115, xgP4_9, xl120, xs120, xgP7_0, xgP7_1, xl136, xs136, xgP7_2, xl144, xs144, xgP12_0, xl160, xs160, xgP12_4, xl168, xs168, xgP12_5, xl176, xs176, xgP12_6, xl184, xs184, xgP12_7, xl192, xs192, xgP12_8, xl200, xs200, xgP12_11, xl209, xs209, xgP12_12, xl218, xs218, xgP12_13, xl226, xs226, xgP12_14, xl232, xs232, xgP12_15, xl241, xs241, xgP12_16, xl248, xs248, xgP12_17, xl256, xs256, xgP12_18, xl264, xs264, xgP12_19, xl274, xs274, xgP12_20, xl280, xs280, xgP12_22, xl288, xs288, xgP12_25, xl296, xs296, xgP12_26, xl305, xs305, xgP12_27, xl312, xs312, xgP12_28, xl321, xs321, xgP12_29, xl328, xs328, xgP12_31, xl336, xs336, xgP12_33, xl344, xs344, xgP12_46, xl352, xs352, xgP12_47, xl360, xs360, xgP2_0, xpL2_0, xgP2_1, xpL2_1, xgP2_2, xpL2_2, xgI2, xwZ2, xpR2, xmo, xpL_5, xpL_33, xpL_34, xpL_35, xpL_36, xpL_37, Nat.reduceMul, Nat.reduceAdd, h2, wp_ite, i3m2, i3m4, i3m5, i3m6, i3m7, i3m12, i3m60, i3m72, i3m1600, i3r6, i3p1, i3p2, i3p3, i3p4, i3p5, i3p6, i3p7, i3p8, i3p9, i3p20, i3_add, i3_mul, i3_toNat, inA_i3, i3_lt, i3_le, i3_eq, Nat.le_refl, if_true, wp_rt, List.take_length]
    exact ⟨rfl, trivial⟩
  · rintro f i x ν hi ⟨rfl, rfl⟩ ih
    show q_wp (F_X12_settleOf_L16 (f + 1) (b + 38) (q_i3 j) (q_i3 d) k _ (q_i3 i)) ν _
    unfold F_X12_settleOf_L16 F_X12_settleOf_L79
    obtain ⟨g0, g1, g2, g3⟩ := h4 i hi
    have hle : ¬ (dRt v).length ≤ i := by omega
    have b0 : 4 * i < 400 := by omega
    have b1 : 4 * i + 1 < 400 := by omega
    have b2 : 4 * i + 2 < 400 := by omega
    have b3 : 4 * i + 3 < 400 := by omega
    simp (maxSteps := 2000000) (disch := first | assumption | omega | (simp only [K0_sI, K0_sL, K0_tI, K0_tL, K0_nE]; assumption)) only [wp_bn, xgI11, xgL11, xwI11, xpR11, xgI4, xgL4, xwI4, xpR4, xgI7, xgL7, xwI7, xpR7, xgI12, xgL12, xwI12, xpR12, xgP11_0, xgP11_1, xgP11_2, xgP11_3, xgP11_4, xgP11_5, xgP11_6, xgP11_7, xgP4_0, xl115, xs115, xgP4_9, xl120, xs120, xgP7_0, xgP7_1, xl136, xs136, xgP7_2, xl144, xs144, xgP12_0, xl160, xs160, xgP12_4, xl168, xs168, xgP12_5, xl176, xs176, xgP12_6, xl184, xs184, xgP12_7, xl192, xs192, xgP12_8, xl200, xs200, xgP12_11, xl209, xs209, xgP12_12, xl218, xs218, xgP12_13, xl226, xs226, xgP12_14, xl232, xs232, xgP12_15, xl241, xs241, xgP12_16, xl248, xs248, xgP12_17, xl256, xs256, xgP12_18, xl264, xs264, xgP12_19, xl274, xs274, xgP12_20, xl280, xs280, xgP12_22, xl288, xs288, xgP12_25, xl296, xs296, xgP12_26, xl305, xs305, xgP12_27, xl312, xs312, xgP12_28, xl321, xs321, xgP12_29, xl328, xs328, xgP12_31, xl336, xs336, xgP12_33, xl344, xs344, xgP12_46, xl352, xs352, xgP12_47, xl360, xs360, xgP2_0, xpL2_0, xgP2_1, xpL2_1, xgP2_2, xpL2_2, xgI2, xwZ2, xpR2, xmo, xpL_5, xpL_33, xpL_34, xpL_35, xpL_36, xpL_37, Nat.reduceMul, Nat.reduceAdd, h2, wp_ite, i3m2, i3m4, i3m5, i3m6, i3m7, i3m12, i3m60, i3m72, i3m1600, i3r6, i3p1, i3p2, i3p3, i3p4, i3p5, i3p6, i3p7, i3p8, i3p9, i3p20, i3_add, i3_mul, i3_toNat, inA_i3, i3_lt, i3_le, i3_eq, hle, if_false, b0, b1, b2, b3, true_and, g0, g1, g2, g3]
    have step : ∀ y, y = stp (q_i3 j) (q_i3 d) k (((dRt v).take i).foldl (stp (q_i3 j) (q_i3 d) k) (dSt v d j)) ((dRt v).getD i q_q4) → q_wp (F_X12_settleOf_L16 f (b + 38) (q_i3 j) (q_i3 d) k y (q_i3 (i + 1))) ν (fun a μ' => a = q_stOf v j d k ∧ μ' = ν) := by
      intro y hy
      exact ih _ ν ⟨rfl, by rw [hy, foldl_take _ _ _ _ hi]⟩
    by_cases e0 : ((dRt v).getD i q_q4).1 = q_i3 j
    · rw [if_neg (fun z => z e0)]
      by_cases e1 : ((dRt v).getD i q_q4).2.1 = q_i3 d
      · rw [if_neg (fun z => z e1)]
        by_cases e2 : k < ((dRt v).getD i q_q4).2.2.2
        · rw [if_pos e2]; exact step _ (by unfold stp; rw [if_neg (fun z => z.2.2 e2)])
        · rw [if_neg e2]; exact step _ (by unfold stp; rw [if_pos ⟨e0, e1, e2⟩])
      · rw [if_pos e1]; exact step _ (by unfold stp; rw [if_neg (fun z => e1 z.2.1)])
    · rw [if_pos e0]; exact step _ (by unfold stp; rw [if_neg (fun z => e0 z.1)])
theorem r_latest {μ : Mem} {b j n : Nat} {v : VD} (hK : K0 μ b) (hD : RD μ b v) (hI : ID v n) (hj : j < 6) : F_X12_latest (b + 38) (q_i3 j) μ = some (lat v j, μ) := by
  apply eq_wp
  unfold F_X12_latest lat
  have hb := hI.1
  simp (maxSteps := 2000000) (disch := first | assumption | omega | (simp only [K0_sI, K0_sL, K0_tI, K0_tL, K0_nE]; assumption)) only [wp_bn, xgI11, xgL11, xwI11, xpR11, xgI4, xgL4, xwI4, xpR4, xgI7, xgL7, xwI7, xpR7, xgI12, xgL12, xwI12, xpR12, xgP11_0, xgP11_1, xgP11_2, xgP11_3, xgP11_4, xgP11_5, xgP11_6, xgP11_7, xgP4_0, xl115, xs115, xgP4_9, xl120, xs120, xgP7_0, xgP7_1, xl136, xs136, xgP7_2, xl144, xs144, xgP12_0, xl160, xs160, xgP12_4, xl168, xs168, xgP12_5, xl176, xs176, xgP12_6, xl184, xs184, xgP12_7, xl192, xs192, xgP12_8, xl200, xs200, xgP12_11, xl209, xs209, xgP12_12, xl218, xs218, xgP12_13, xl226, xs226, xgP12_14, xl232, xs232, xgP12_15, xl241, xs241, xgP12_16, xl248, xs248, xgP12_17, xl256, xs256, xgP12_18, xl264, xs264, xgP12_19, xl274, xs274, xgP12_20, xl280, xs280, xgP12_22, xl288, xs288, xgP12_25, xl296, xs296, xgP12_26, xl305, xs305, xgP12_27, xl312, xs312, xgP12_28, xl321, xs321, xgP12_29, xl328, xs328, xgP12_31, xl336, xs336, xgP12_33, xl344, xs344, xgP12_46, xl352, xs352, xgP12_47, xl360, xs360, xgP2_0, xpL2_0, xgP2_1, xpL2_1, xgP2_2, xpL2_2, xgI2, xwZ2, xpR2, xmo, xpL_5, xpL_33, xpL_34, xpL_35, xpL_36, xpL_37, Nat.reduceMul, Nat.reduceAdd, hD.1, wp_ite]
  by_cases h0 : dT v = 0
  · simp only [h0, if_true]; rw [if_neg (by decide), wp_rt]; exact ⟨rfl, rfl⟩
  · have hne : ¬ q_i3 (dT v) = 0 := fun z => h0 ((i3_eq (b := 0) (by omega) (by omega)).mp z)
    have e1 : q_i3 (dT v) - 1 = q_i3 (dT v - 1) := i3_sub (a := dT v) (b := 1) (by omega)
    rw [if_pos hne, if_neg h0, e1, wp_eq (r_settleOf hK hD hI hj (by omega)), wp_rt]; exact ⟨rfl, rfl⟩

theorem q_AC.md {S : List Nat} {μ ν : Mem} {b : Nat} {s : q_St} (h : q_AC μ b s) (hm : Md S μ ν) (hW : WF μ) (hS : disj S [0, 1, 2, 64, 65, 66, 67, 68, 131, 192, 193, 194, 195, 196, 197, 198, 257, 258, 259, 320, 321, 322, 323, 384, 385, 386, 512, 513, 514, 576, 577, 578, 579, 640, 641, 642, 643, 644, 645, 646, 712, 713, 714, 2086, 2088, 2097, 2104, 2115, 2128] = true) (h8 : S.contains 834 = false) : q_AC ν b s := h.fr hm.1 hS (fun o _ => by rw [(hm.wf hW h8).2])
theorem cOK.md {S : List Nat} {μ ν : Mem} {b x y : Nat} {s : q_St} (hK : K0 μ b) (h : q_AC μ b s) (hm : Md S μ ν) (hW : WF μ) (hS : disj S [0, 1, 2, 64, 65, 66, 67, 68, 131, 192, 193, 194, 195, 196, 197, 198, 257, 258, 259, 320, 321, 322, 323, 384, 385, 386, 512, 513, 514, 576, 577, 578, 579, 640, 641, 642, 643, 644, 645, 646, 712, 713, 714, 2086, 2088, 2097, 2104, 2115, 2128] = true) (h8 : S.contains 834 = false) (h1 : subL S CS = true) (h2 : disj STAT S = true) : cOK μ b s x y ν :=
  cOK.of hK (h.md hm hW hS h8) (hm.cs (b := b) hW h8) h1 h2
theorem q_AR.md {S : List Nat} {μ ν : Mem} {b : Nat} {s : q_St} (h : q_AR μ b s) (hm : Md S μ ν) (hS : disj S [778, 2209, 2218, 2226, 2232, 2241, 2264, 2274, 2248, 2256, 789, 2280, 791, 2288, 800, 2336, 802, 2344, 792, 798, 2296, 2305, 2321, 2312, 2328, 769, 770, 771, 2160, 777, 2168, 2176, 2184, 2192, 2200] = true) : q_AR ν b s := by
  obtain ⟨h1, h2, h3, h4, h5, h6, h7, h8, h9⟩ := h
  have dd : ∀ T : List Nat, subL T [778, 2209, 2218, 2226, 2232, 2241, 2264, 2274, 2248, 2256, 789, 2280, 791, 2288, 800, 2336, 802, 2344, 792, 798, 2296, 2305, 2321, 2312, 2328, 769, 770, 771, 2160, 777, 2168, 2176, 2184, 2192, 2200] = true → disj T S = true := by
    intro T hT
    refine List.all_eq_true.mpr fun x hx => ?_
    have h1 := List.contains_iff_mem.mp (List.all_eq_true.mp hT x hx)
    cases hc : S.contains x with
    | false => rfl
    | true =>
      have := disj_nc hS (List.contains_iff_mem.mp hc)
      rw [List.contains_iff_mem.mpr h1] at this; cases this
  have f := hm.1
  exact ⟨h1.fr f (dd _ rfl), h2.fr f (dd _ rfl), h3.fr f (dd _ rfl), h4.fr f (dd _ rfl), h5.fr f (dd _ rfl), h6.fr f (dd _ rfl), h7.fr f (dd _ rfl), h8.fr f (dd _ rfl), h9.fr f (dd _ rfl)⟩
theorem rOK.md {S : List Nat} {μ ν : Mem} {b : Nat} {s : q_St} (h : q_AR μ b s) (h0 : mI μ 803 (b + 38) = 0) (hm : Md S μ ν) (hS : disj S [778, 2209, 2218, 2226, 2232, 2241, 2264, 2274, 2248, 2256, 789, 2280, 791, 2288, 800, 2336, 802, 2344, 792, 798, 2296, 2305, 2321, 2312, 2328, 769, 770, 771, 2160, 777, 2168, 2176, 2184, 2192, 2200] = true) (h1 : subL S RS = true) (h2 : S.contains 803 = false) : rOK μ b s 0 ν := ⟨h.md hm hS, hm.wk h1, by rw [hm.1.i 803 h2]; exact h0⟩
def fRule (s : q_St) (n d m p l g q : Int32) : Option Int32 := if q_inR n 6 ∧ q_inR d 151 then some (q_rv (sU s) n d m p l g q) else none
theorem c_rule {μ : Mem} {b : Nat} {s : q_St} (hK : K0 μ b) (hW : WF μ) (hA : q_AC μ b s) (n d m p l g q : Int32) : q_wp (F_X11_rule b n d m p l g q) μ (fun r ν => r = fRule s n d m p l g q ∧ cOK μ b s 1 6 ν) := by
  obtain ⟨hM, hL, hO, hT, hD, hR, hN, hU, hP⟩ := id hA
  unfold F_X11_rule F_X11_rule_L20 fRule
  have e0 : (0 : Int32).toInt = 0 := rfl
  have e5 : (5 : Int32).toInt = 5 := rfl
  have e150 : (150 : Int32).toInt = 150 := rfl
  simp only [wp_ite, wp_thr, Int32.lt_iff_toInt_lt, Int32.le_iff_toInt_le, e0, e5, e150]
  have no : ¬ (q_inR n 6 ∧ q_inR d 151) → (none : Option Int32) = (if q_inR n 6 ∧ q_inR d 151 then some (q_rv (sU s) n d m p l g q) else none) ∧ cOK μ b s 1 6 (nE μ) := by
    intro h; rw [if_neg h]; exact ⟨rfl, cOK.nE hK hW hA⟩
  by_cases h1 : n.toInt < 0
  · rw [if_pos h1]; exact no (by unfold q_inR; omega)
  rw [if_neg h1]
  by_cases h2 : 5 < n.toInt
  · rw [if_pos h2]; exact no (by unfold q_inR; omega)
  rw [if_neg h2]
  by_cases h3 : d.toInt < 0
  · rw [if_pos h3]; exact no (by unfold q_inR; omega)
  rw [if_neg h3]
  by_cases h4 : d.toInt ≤ 150
  · rw [if_pos h4, if_pos (by unfold q_inR; omega), wp_bn, xgP11_1 hK, wp_bn, xpR7 hK, wp_bn]
    refine q_wp_mono (c_valueOf hK hW hU) ?_
    rintro r ν ⟨rfl, hm⟩
    rw [wp_rt]
    exact ⟨rfl, cOK.md hK hA hm hW rfl rfl rfl rfl⟩
  · rw [if_neg h4]; exact no (by unfold q_inR; omega)
theorem r_rule {μ : Mem} {b : Nat} {s : q_St} (hK : K0 μ b) (hA : q_AR μ b s) (n d m p l g q : Int32) : q_wp (F_X12_rule (b + 38) n d m p l g q) μ (fun r ν => (∀ x, fRule s n d m p l g q = some x → r = x) ∧ rOK μ b s (if fRule s n d m p l g q = none then 1 else 0) ν) := by
  unfold F_X12_rule F_X12_rule_L29
  refine r_start hK hA fun μ hK hA h0 => ?_
  obtain ⟨hM, hL, hO, hT, hD, hR, hN, hU, hP⟩ := id hA
  unfold fRule
  rw [wp_bn, wp_eq (in_lit (n := 6) rfl), wp_ite]
  have no : ¬ (q_inR n 6 ∧ q_inR d 151) → q_wp (bn (wI 12 35 (some (b + 38)) (1 : Int32)) fun _ => rt (0 : Int32)) μ (fun r ν => (∀ x, (if q_inR n 6 ∧ q_inR d 151 then some (q_rv (sU s) n d m p l g q) else none) = some x → r = x) ∧ rOK μ b s (if (if q_inR n 6 ∧ q_inR d 151 then some (q_rv (sU s) n d m p l g q) else none) = none then 1 else 0) ν) := by
    intro h
    rw [if_neg h, wp_bn, xwI12 hK, wp_rt]
    exact ⟨fun x hx => (by cases hx), rOK.t1 hK hA⟩
  by_cases h1 : q_inR n 6
  · rw [if_pos h1, if_neg (by decide), wp_bn, wp_eq (in_lit (n := 151) rfl), wp_ite]
    by_cases h2 : q_inR d 151
    · rw [if_pos h2, if_pos (by decide), if_pos ⟨h1, h2⟩, wp_bn, xpR12 hK, wp_bn]
      refine q_wp_mono (r_ruleOf hK hU) ?_
      rintro r ν ⟨rfl, hm⟩
      rw [wp_rt]
      exact ⟨fun x hx => Option.some.inj hx, rOK.md hA h0 hm rfl rfl rfl⟩
    · rw [if_neg h2, if_neg (by decide)]; exact no fun z => h2 z.2
  · rw [if_neg h1, if_pos rfl]; exact no fun z => h1 z.1
def okDay (v : VD) (d k : Int32) : Prop := q_inR d (dT v) ∧ d.toInt ≤ k.toInt ∧ k.toInt ≤ dT v
theorem c_isOver {μ : Mem} {b : Nat} {v : VD} {d : Int32} (hK : K0 μ b) (hW : WF μ) (hD : CDx μ b v) : F_X11_isOver b d μ = some (if q_inR d (dT v) then 1 else 0, μ) := by
  apply eq_wp
  have k37 := hK.k 37 14 (by decide)
  have hb := (hW.ls k37).2.1
  rw [hD.2.1] at hb
  unfold F_X11_isOver
  have e := inR_lt (p := d) (n := dT v) (by omega)
  rw [wp_ite]
  by_cases h0 : d < 0
  · rw [if_pos h0, wp_rz, if_neg (fun z => (e.mp z).1 h0)]; exact ⟨Or.inl rfl, rfl, rfl⟩
  · rw [if_neg h0, wp_bn, xgP11_7 hK, wp_bn, xpL_37 hK, wp_bn, wp_eq (ls_size hW k37), hD.2.1, wp_ite]
    by_cases h1 : q_i3 (dT v) ≤ d
    · have : ¬ q_inR d (dT v) := fun z => by
        have := (e.mp z).2; rw [Int32.le_iff_toInt_le] at h1; rw [Int32.lt_iff_toInt_lt] at this; omega
      rw [if_pos h1, wp_rz, if_neg this]; exact ⟨Or.inl rfl, rfl, rfl⟩
    · have : q_inR d (dT v) := e.mpr ⟨h0, by rw [Int32.le_iff_toInt_le] at h1; rw [Int32.lt_iff_toInt_lt]; omega⟩
      rw [if_neg h1, wp_rz, if_pos this]; exact ⟨Or.inr rfl, rfl, rfl⟩
theorem c_isKnown {μ : Mem} {b n : Nat} {v : VD} {d k : Int32} (hK : K0 μ b) (hW : WF μ) (hD : q_CD μ b v) (hI : ID v n) : ∃ x : Int32, F_X11_isKnown b d k μ = some (x, μ) ∧ ((okDay v d k ∧ x = 1) ∨ (¬ okDay v d k ∧ x = 0)) := by
  have hb := hI.1
  by_cases h : okDay v d k
  · refine ⟨1, eq_wp ?_, Or.inl ⟨h, rfl⟩⟩
    obtain ⟨h1, h2, h3⟩ := h
    unfold F_X11_isKnown
    rw [wp_bn, xpR11 hK, wp_bn, wp_eq (c_isOver hK hW hD.x), if_pos h1, wp_ite, if_neg (by decide), wp_ite, if_neg (by rw [Int32.lt_iff_toInt_lt]; omega), wp_bn, xgI11 hK, wp_ite, show mI μ (64 * 11 + 8) b = q_i3 (dT v) from hD.1, if_neg (by rw [Int32.lt_iff_toInt_lt, i3_toInt (by omega)]; omega), wp_rz]
    exact ⟨Or.inr rfl, rfl, rfl⟩
  · refine ⟨0, eq_wp ?_, Or.inr ⟨h, rfl⟩⟩
    unfold F_X11_isKnown
    rw [wp_bn, xpR11 hK, wp_bn, wp_eq (c_isOver hK hW hD.x), wp_ite]
    by_cases h1 : q_inR d (dT v)
    · rw [if_pos h1, if_neg (by decide), wp_ite]
      by_cases h2 : k < d
      · rw [if_pos h2, wp_rz]; exact ⟨Or.inl rfl, rfl, rfl⟩
      · rw [if_neg h2, wp_bn, xgI11 hK, wp_ite, show mI μ (64 * 11 + 8) b = q_i3 (dT v) from hD.1]
        have : q_i3 (dT v) < k := by
          rw [Int32.lt_iff_toInt_lt] at h2 ⊢
          rw [i3_toInt (by omega)]
          have : ¬ k.toInt ≤ dT v := fun z => h ⟨h1, by omega, z⟩
          omega
        rw [if_pos this, wp_rz]; exact ⟨Or.inl rfl, rfl, rfl⟩
    · rw [if_neg h1, if_pos rfl, wp_rz]; exact ⟨Or.inl rfl, rfl, rfl⟩
theorem okDay_dec (v : VD) (d k : Int32) : okDay v d k ∨ ¬ okDay v d k := Classical.em _
def fSettle (s : q_St) (m d k : Int32) : Int32 := if q_inR m 6 ∧ q_inR d (dT (sD s)) ∧ d.toInt ≤ k.toInt ∧ k.toInt ≤ dT (sD s) then q_stOf (sD s) m.toNatClampNeg d.toNatClampNeg k else -1
theorem c_settle {μ : Mem} {b c : Nat} {s : q_St} (hK : K0 μ b) (hW : WF μ) (hA : q_AC μ b s) (hI : Iv s c) (m d k : Int32) : q_wp (F_X11_settle b m d k) μ (fun r ν => r = fSettle s m d k ∧ cOK μ b s 0 0 ν) := by
  obtain ⟨hM, hL, hO, hT, hD, hR, hN, hU, hP⟩ := id hA
  have hok := cOK.rf (x := 0) (y := 0) hK hW hA
  have hID := hI.2.2.2.2.1
  have hb := hID.1
  unfold F_X11_settle fSettle
  rw [wp_bn, wp_eq c_isMonth, wp_ite]
  by_cases h : q_inR m 6
  · rw [if_pos h, if_neg (by decide), wp_bn, xpR11 hK, wp_bn]
    obtain ⟨x, ex, hx⟩ := c_isKnown (d := d) (k := k) hK hW hD hID
    rw [wp_eq ex, wp_ite]
    rcases hx with ⟨hx, rfl⟩ | ⟨hx, rfl⟩
    · obtain ⟨h1, h2, h3⟩ := hx
      rw [if_pos (by decide), if_pos ⟨h, h1, h2, h3⟩]
      obtain ⟨j, hj, rfl⟩ := inR_i3 h
      obtain ⟨e, he, rfl⟩ := inR_i3 h1
      have hk : ¬ k < q_i3 e := by rw [Int32.lt_iff_toInt_lt]; omega
      rw [wp_bn, xpR11 hK, wp_bn, wp_eq (c_priceOn hK hW hD.x hID hj he hk), i3_toNat (by omega), i3_toNat (by omega), wp_ite]
      obtain ⟨_, q1, q2⟩ := st_lk hID hj he hk
      by_cases h0 : dSt (sD s) e j = -1
      · rw [q1 h0]; rw [if_neg (by decide), wp_rt]; exact ⟨rfl, hok⟩
      · have := q2 h0
        have hne : ¬ q_stOf (sD s) j e k = -1 := fun z => by rw [z] at this; exact absurd this.1 (by decide)
        have hp : pz (q_stOf (sD s) j e k) = q_stOf (sD s) j e k := by unfold pz; rw [if_neg hne]
        have hn0 : ¬ q_stOf (sD s) j e k = 0 := fun z => by rw [z] at this; exact absurd this.1 (by decide)
        rw [hp, if_pos hn0, wp_rt]; exact ⟨rfl, hok⟩
    · rw [if_neg (by decide), wp_rt, if_neg (fun z => hx z.2)]; exact ⟨rfl, hok⟩
  · rw [if_neg h, if_pos rfl, wp_rt, if_neg (fun z => h z.1)]; exact ⟨rfl, hok⟩
theorem r_settle {μ : Mem} {b c : Nat} {s : q_St} (hK : K0 μ b) (hA : q_AR μ b s) (hI : Iv s c) (m d k : Int32) : q_wp (F_X12_settle (b + 38) m d k) μ (fun r ν => r = fSettle s m d k ∧ rOK μ b s 0 ν) := by
  have hID := hI.2.2.2.2.1
  have hb := hID.1
  unfold F_X12_settle
  refine r_start hK hA fun μ hK hA h0 => ?_
  obtain ⟨hM, hL, hO, hT, hD, hR, hN, hU, hP⟩ := id hA
  have hok := rOK.rf hA h0
  unfold fSettle
  rw [wp_bn, wp_eq r_isMonth, wp_ite]
  by_cases h : q_inR m 6
  · rw [if_pos h, if_neg (by decide), wp_bn, xgI12 hK, show mI μ (64 * 12 + 24) (b + 38) = q_i3 (dT (sD s)) from hD.1, wp_bn, wp_eq (in_cnt (by omega)), wp_ite]
    by_cases h1 : q_inR d (dT (sD s))
    · rw [if_pos h1, if_neg (by decide), wp_bn, xgI12 hK, show mI μ (64 * 12 + 24) (b + 38) = q_i3 (dT (sD s)) from hD.1, wp_bn, wp_eq in_wp, wp_ite, Int32.toInt_toInt64, Int32.toInt_toInt64, Int32.toInt_toInt64, i3_toInt (by omega)]
      by_cases h2 : d.toInt ≤ k.toInt ∧ k.toInt ≤ dT (sD s)
      · rw [if_pos h2, if_neg (by decide), if_pos ⟨h, h1, h2⟩, wp_bn, xpR12 hK, wp_bn]
        obtain ⟨j, hj, rfl⟩ := inR_i3 h
        obtain ⟨e, he, rfl⟩ := inR_i3 h1
        rw [wp_eq (r_settleOf hK hD hID hj he), wp_rt, i3_toNat (by omega), i3_toNat (by omega)]
        exact ⟨rfl, hok⟩
      · rw [if_neg h2, if_pos rfl, wp_rt, if_neg (fun z => h2 z.2.2)]; exact ⟨rfl, hok⟩
    · rw [if_neg h1, if_pos rfl, wp_rt, if_neg (fun z => h1 z.2.1)]; exact ⟨rfl, hok⟩
  · rw [if_neg h, if_pos rfl, wp_rt, if_neg (fun z => h z.1)]; exact ⟨rfl, hok⟩

def vRight (v : VD) (q : Rt) : VD := (dT v, dSt v, dRt v ++ [q], dNm v, dBa v, dPs v)
def fRight (s : q_St) (m d p : Int32) : Int32 × q_St := if q_inR m 6 ∧ (1 ≤ p.toInt ∧ p.toInt ≤ 10000) ∧ q_inR d (dT (sD s)) ∧ (dRt (sD s)).length < 100 ∧ dSt (sD s) d.toNatClampNeg m.toNatClampNeg ≠ -1 then (1, wD s (vRight (sD s) (m, d, p, q_i3 (dT (sD s))))) else (0, s)
theorem chn_right {v : VD} {d j d' j' : Nat} {p t : Int32} (hd : d < 200) (hj : j < 6) (hd' : d' < 200) (hj' : j' < 6) (hne : dSt v d j ≠ -1) : chn (vRight v (q_i3 j, q_i3 d, p, t)) d' j' = if d' = d ∧ j' = j then (p, t) :: chn v d j else chn v d' j' := by
  unfold chn
  show (if dSt v d' j' = -1 then [] else (((dRt v ++ [(q_i3 j, q_i3 d, p, t)]).filter fun q => q.1 = q_i3 j' ∧ q.2.1 = q_i3 d').map fun q => (q.2.2.1, q.2.2.2)).reverse ++ [(dSt v d' j', q_i3 d')]) = _
  rw [List.filter_append, List.map_append, List.reverse_append]
  by_cases e : d' = d ∧ j' = j
  · obtain ⟨rfl, rfl⟩ := e
    rw [if_neg hne, if_pos ⟨rfl, rfl⟩, if_neg hne]
    simp
  · rw [if_neg e]
    have : ¬ (q_i3 j = q_i3 j' ∧ q_i3 d = q_i3 d') := fun z => e ⟨((i3_eq (by omega) (by omega)).mp z.2).symm, ((i3_eq (by omega) (by omega)).mp z.1).symm⟩
    by_cases h : dSt v d' j' = -1
    · rw [if_pos h, if_pos h]
    · rw [if_neg h, if_neg h]
      simp [List.filter_cons, this]
theorem Nw.tP {μ ν : Mem} (h : Nw μ ν) {k a i : Nat} {v : Option Nat} (ha : mK ν a ≠ 0) (hk : k ≠ 372) : Nw μ (tP ν k a i v) := by
  obtain ⟨w, l⟩ := h.1.tP (i := i) (v := v) ha hk
  exact ⟨w, l.trans h.2.1, h.2.2⟩
theorem chn_nil {v : VD} {d j : Nat} : chn v d j = [] ↔ dSt v d j = -1 := by
  unfold chn
  by_cases h : dSt v d j = -1
  · rw [if_pos h]; exact ⟨fun _ => h, fun _ => rfl⟩
  · rw [if_neg h]; exact ⟨fun z => absurd z (by simp), fun z => absurd z h⟩
theorem dy_ne {μ : Mem} {b d d' : Nat} {v : VD} (hK : K0 μ b) (hW : WF μ) (hD : CDx μ b v) (hd : d < dT v) (hd' : d' < dT v) (h : dy μ b d = dy μ b d') : d = d' := hW.inj (hK.k 37 14 (by decide)) (by rw [hD.2.1]; exact hd) (by rw [hD.2.1]; exact hd') h
theorem c_isPrice {p : Int32} {μ : Mem} : F_X11_isPrice p μ = some (if 1 ≤ p.toInt ∧ p.toInt ≤ 10000 then 1 else 0, μ) := by
  apply eq_wp
  unfold F_X11_isPrice
  have e1 : (1 : Int32).toInt = 1 := rfl
  have e2 : (10000 : Int32).toInt = 10000 := rfl
  simp only [wp_ite, wp_rz, Int32.lt_iff_toInt_lt, e1, e2]
  by_cases h1 : p.toInt < 1
  · rw [if_pos h1, if_neg (by omega)]; simp
  · rw [if_neg h1]
    by_cases h2 : 10000 < p.toInt
    · rw [if_pos h2, if_neg (by omega)]; simp
    · rw [if_neg h2, if_pos (by omega)]; simp
theorem c_right {μ : Mem} {b c : Nat} {s : q_St} (hK : K0 μ b) (hW : WF μ) (hA : q_AC μ b s) (hI : Iv s c) (m d p : Int32) : q_wp (F_X11_right b m d p) μ (fun r ν => r = (fRight s m d p).1 ∧ cOK μ b (fRight s m d p).2 1 3 ν) := by
  obtain ⟨hM, hL, hO, hT, hD, hR, hN, hU, hP⟩ := id hA
  have hID := hI.2.2.2.2.1
  have hb := hID.1
  have hb2 := hID.2.1
  have k37 := hK.k 37 14 (by decide)
  obtain ⟨R, eR⟩ : ∃ R, R = fRight s m d p := ⟨_, rfl⟩
  rw [← eR]
  unfold fRight at eR
  have no : ¬ (q_inR m 6 ∧ (1 ≤ p.toInt ∧ p.toInt ≤ 10000) ∧ q_inR d (dT (sD s)) ∧ (dRt (sD s)).length < 100 ∧ dSt (sD s) d.toNatClampNeg m.toNatClampNeg ≠ -1) → ((0 : Int32) = 0 ∨ (0 : Int32) = 1) ∧ (0 : Int32) = R.1 ∧ cOK μ b R.2 1 3 μ := by
    intro h; rw [if_neg h] at eR; rw [eR]; exact ⟨Or.inl rfl, rfl, cOK.rf hK hW hA⟩
  unfold F_X11_right
  rw [wp_bn, wp_eq c_isMonth, wp_ite]
  by_cases h1 : q_inR m 6
  rotate_left
  · rw [if_neg h1, if_pos rfl, wp_rz]; exact no fun z => h1 z.1
  rw [if_pos h1, if_neg (by decide), wp_bn, wp_eq c_isPrice, wp_ite]
  by_cases h2 : 1 ≤ p.toInt ∧ p.toInt ≤ 10000
  rotate_left
  · rw [if_neg h2, if_pos rfl, wp_rz]; exact no fun z => h2 z.2.1
  rw [if_pos h2, if_neg (by decide), wp_bn, xpR11 hK, wp_bn, wp_eq (c_isOver hK hW hD.x), wp_ite]
  by_cases h3 : q_inR d (dT (sD s))
  rotate_left
  · rw [if_neg h3, if_pos rfl, wp_rz]; exact no fun z => h3 z.2.2.1
  rw [if_pos h3, if_neg (by decide), wp_bn, xgI11 hK, show mI μ (64 * 11 + 10) b = q_i3 (dRt (sD s)).length from hD.2.1, wp_ite]
  have hlt : q_i3 (dRt (sD s)).length < 100 ↔ (dRt (sD s)).length < 100 := i3_lt (b := 100) (by omega) (by omega)
  by_cases h4 : (dRt (sD s)).length < 100
  rotate_left
  · rw [if_neg (fun z => h4 (hlt.mp z)), wp_rz]; exact no fun z => h4 z.2.2.2.1
  obtain ⟨j, hj, rfl⟩ := inR_i3 h1
  obtain ⟨e, he, rfl⟩ := inR_i3 h3
  rw [if_pos (hlt.mpr h4)]
  obtain ⟨⟨d1, d2, d3, d4, d5, d6, d7, d8, d9, d10⟩, g1, g2⟩ := hD.x.2.2 e he
  have d1' : mK μ ((q_lst μ (b + 37)).getD e 0) = 0 + 1 := d1
  have d2' : mP μ (64 * 0 + 0) ((q_lst μ (b + 37)).getD e 0) = some (dy μ b e + 1) := d2
  have hl37 : e < (q_lst μ (b + 37)).length := by rw [hD.x.2.1]; exact he
  rw [wp_bn, xgP11_7 hK, wp_bn, xpL_37 hK, wp_bn, wp_eq (ls_get hW k37 hl37), wp_bn, wp_cst]
  refine ⟨d1', ?_⟩
  rw [wp_bn, wp_gP, d2']
  refine ⟨d1', ?_⟩
  rw [wp_bn, wp_lP, d5, d8, inA_i3 (by omega), i3_toNat (by omega)]
  refine ⟨rfl, hj, ?_⟩
  have hc := g1 j hj
  rw [i3_toNat (by omega), i3_toNat (by omega)] at eR no
  rw [wp_ite]
  cases hl : chn (sD s) e j with
  | nil =>
    rw [hl] at hc
    have hc : aP μ 86 (dy μ b e + 1) j = none := hc
    rw [hc, if_neg (fun z => z rfl), wp_rz]
    exact no fun z => z.2.2.2.2 (chn_nil.mp hl)
  | cons q l =>
    have hne : dSt (sD s) e j ≠ -1 := fun z => by rw [chn_nil.mpr z] at hl; cases hl
    rw [if_pos ⟨h1, h2, h3, h4, hne⟩] at eR
    have hc' := hc
    rw [hl] at hc
    obtain ⟨r9, hr9, _⟩ := hc
    rw [if_pos (by rw [hr9]; simp), wp_bn, xgP11_7 hK, wp_bn, xpL_37 hK, wp_bn, wp_eq (ls_get hW k37 hl37), wp_bn, wp_cst]
    refine ⟨d1', ?_⟩
    rw [wp_bn, wp_gP, d2']
    refine ⟨d1', ?_⟩
    have hz := hW.z
    rw [wp_bn, wp_newO hz, wp_bn]
    obtain ⟨r, hr⟩ : ∃ r, r = mX μ := ⟨_, rfl⟩
    rw [← hr]
    have n1 := (Nw.rf hW).al 9 0 3 (by omega)
    have K1 : K0 (q_al (8 + 1) 0 3 μ) b := hK.fr (q_Fr.nw hz 9 0 3) rfl
    have kr1 : mK (q_al (8 + 1) 0 3 μ) r = 9 := by rw [mK_al, if_pos hr]
    have eT : mI (q_al (8 + 1) 0 3 μ) (64 * 11 + 8) b = q_i3 (dT (sD s)) := hD.1
    rw [xgI11 K1, eT, wp_bn, wp_pRc]
    refine ⟨kr1, ?_⟩
    unfold F_X8_init
    simp only [wp_bn, wp_wI, wp_wP, wp_rt, wp_stP, Nat.reduceMul, Nat.reduceAdd]
    obtain ⟨bp, ebp⟩ : ∃ bp, bp = aP μ 86 (dy μ b e + 1) j := ⟨_, rfl⟩
    rw [← ebp]
    have n2 := ((n1.sI (f := 512) (a := r) (v := p) (by show mK (q_al (8 + 1) 0 3 μ) r ≠ 0; omega) (by omega)).sI (f := 513) (a := r) (v := q_i3 (dT (sD s))) (by show mK (q_al (8 + 1) 0 3 μ) r ≠ 0; omega) (by omega)).sP (f := 514) (a := r) (v := bp) (by show mK (q_al (8 + 1) 0 3 μ) r ≠ 0; omega) (by omega)
    have kx : ∀ a, mK μ a ≠ 0 → a ≠ r := fun a ha z => by have := hz.lt ha; omega
    have kd : mK (q_al (8 + 1) 0 3 μ) (dy μ b e + 1) = 86 := by rw [mK_al, if_neg (by have := kx (dy μ b e + 1) (by omega); omega)]; exact d5
    have nd : mN (q_al (8 + 1) 0 3 μ) (dy μ b e + 1) = 6 := by rw [mN_al, if_neg (by have := kx (dy μ b e + 1) (by omega); omega)]; exact d8
    refine ⟨kr1, kr1, kr1, kd, ⟨inA_of (by omega) (by show j < mN (q_al (8 + 1) 0 3 μ) (dy μ b e + 1); rw [nd]; exact hj), Or.inr kr1⟩, ?_⟩
    rw [i3_toNat (by omega)]
    have n3 := n2.tP (k := 86) (a := dy μ b e + 1) (i := j) (v := some r) (by show mK (q_al (8 + 1) 0 3 μ) (dy μ b e + 1) ≠ 0; omega) (by omega)
    obtain ⟨μ3, e3⟩ : ∃ μ3, μ3 = tP (sP (sI (sI (q_al 9 0 3 μ) 512 r p) 513 r (q_i3 (dT (sD s)))) 514 r bp) 86 (dy μ b e + 1) j (some r) := ⟨_, rfl⟩
    have f3 : q_Fr [512, 513, 514, 2086] μ μ3 := by rw [e3]; exact (((((q_Fr.nw hz 9 0 3).tr (q_Fr.sI _ 512 r _)).tr (q_Fr.sI _ 513 r _)).tr (q_Fr.sP _ 514 r _)).tr (q_Fr.tP _ 86 _ j _)).wk rfl
    rw [← e3] at n3
    show q_wp (gI 11 10 (some b)) (tP (sP (sI (sI (q_al 9 0 3 μ) 512 r p) 513 r (q_i3 (dT (sD s)))) 514 r bp) 86 (dy μ b e + 1) j (some r)) _
    rw [← e3]
    have K3 : K0 μ3 b := hK.fr f3 rfl
    rw [xgI11 K3]
    refine ⟨kk11 K3, ?_⟩
    rw [wp_rz, show mI μ3 (64 * 11 + 10) b = q_i3 (dRt (sD s)).length by rw [f3.i _ rfl]; exact hD.2.1, i3_1]
    refine ⟨Or.inr rfl, by rw [eR], ?_⟩
    have n4 := n3.sI (f := 714) (a := b) (v := q_i3 ((dRt (sD s)).length + 1)) (by rw [kk11 K3]; omega) (by omega)
    have f4 : q_Fr [512, 513, 514, 2086, 714] μ (sI μ3 714 b (q_i3 ((dRt (sD s)).length + 1))) := (f3.tr (q_Fr.sI _ 714 b _)).wk rfl
    have hC : Cs [512, 513, 514, 2086, 714] [] 1 3 b μ (sI μ3 714 b (q_i3 ((dRt (sD s)).length + 1))) := n4.cs f4 (by rw [e3]; exact Nat.le_refl _) (by rw [e3]; exact Nat.le_refl _)
    rw [eR]
    refine cOK.of hK ⟨hM.fr hC.2.1 (hC.2.2.1 33 (by decide) (by decide)) rfl, hL.fr hC.2.1 (fun i hi => hC.2.2.1 _ (lgO_lo hi) (lgNo (by decide) hi)) rfl, hO.fr hC.2.1 (fun i hi s => hC.2.2.1 _ (sdO_lo hi s) (sdNo (by decide) hi s)) rfl, hT.fr hC.2.1 (hC.2.2.1 34 (by decide) (by decide)) rfl, ?_, hR.fr hC.2.1 (hC.2.2.1 35 (by decide) (by decide)) rfl, hN.fr hC.2.1 (hC.2.2.1 36 (by decide) (by decide)) rfl, hU.fr hC.2.1 (hC.2.2.1 5 (by decide) (by decide)) rfl, hP.fr hC.2.1 rfl⟩ hC rfl rfl
    show q_CD _ b (vRight (sD s) (q_i3 j, q_i3 e, p, q_i3 (dT (sD s))))
    obtain ⟨ν, eν⟩ : ∃ ν, ν = sI μ3 714 b (q_i3 ((dRt (sD s)).length + 1)) := ⟨_, rfl⟩
    rw [← eν] at hC f4 n4 ⊢
    have ll : q_lst ν (b + 37) = q_lst μ (b + 37) := by rw [n4.2.1]
    have edy : ∀ d', dy ν b d' = dy μ b d' := fun d' => by unfold dy; rw [ll]
    refine ⟨by rw [f4.i 712 rfl]; exact hD.1, by rw [eν, mI_sI']; simp; show q_i3 _ = q_i3 (dRt (sD s) ++ [_]).length; rw [List.length_append]; rfl, by rw [ll]; exact hD.x.2.1, fun d' hd' => ?_⟩
    have hd' : d' < dT (sD s) := hd'
    obtain ⟨⟨c1, c2, c3, c4, c5, c6, c7, c8, c9, c10⟩, gg1, gg2⟩ := hD.x.2.2 d' hd'
    rw [edy, f4.alg 97 rfl, f4.ai 88 rfl]
    refine ⟨⟨f4.k c1 (by omega), by rw [f4.p 0 rfl]; exact c2, by rw [f4.p 1 rfl]; exact c3, by rw [f4.p 2 rfl]; exact c4, f4.k c5 (by omega), f4.k c6 (by omega), f4.k c7 (by omega), f4.n (by omega) c8, f4.n (by omega) c9, f4.n (by omega) c10⟩, fun j' hj' => ?_, gg2⟩
    rw [chn_right (by omega) hj (by omega) hj' hne]
    have old : ∀ l p', Ch μ p' l → Ch ν p' l := by
      intro l p' h
      refine Ch.fr (fun a ha => f4.k rfl ha) (fun a ha => ?_) l p' h
      have hne : a ≠ r := kx a (by omega)
      rw [eν, e3]
      refine ⟨?_, ?_, ?_⟩
      · simp [mI_sI', mI_tP, mI_sP, hne, mI_al]
      · simp [mI_sI', mI_tP, mI_sP, hne, mI_al]
      · simp [mP_sI, mP_tP, mP_sP', hne, mP_al]
    have ap : aP ν 86 (dy μ b d' + 1) j' = if d' = e ∧ j' = j then some r else aP μ 86 (dy μ b d' + 1) j' := by
      rw [eν, e3, aP_sI, aP_tP']
      by_cases z : d' = e ∧ j' = j
      · rw [if_pos z, if_pos ⟨rfl, by rw [z.1], z.2⟩]
      · rw [if_neg z, if_neg]
        · rfl
        · rintro ⟨_, z1, z2⟩
          exact z ⟨dy_ne hK hW hD.x hd' he (by omega), z2⟩
    rw [ap]
    by_cases z : d' = e ∧ j' = j
    · rw [if_pos z, if_pos z]
      refine ⟨r, rfl, ?_, ?_, ?_, ?_⟩
      · rw [eν, e3]; exact kr1
      · rw [eν, e3]; simp [mI_sI', mI_tP, mI_sP]
      · rw [eν, e3]; simp [mI_sI', mI_tP, mI_sP]
      · have : mP ν 514 r = bp := by rw [eν, e3]; simp [mP_sI, mP_tP, mP_sP']
        rw [this, ebp]; exact old _ _ hc'
    · rw [if_neg z, if_neg z]; exact old _ _ (gg1 j' hj')
theorem r_right {μ : Mem} {b c : Nat} {s : q_St} (hK : K0 μ b) (hA : q_AR μ b s) (hI : Iv s c) (m d p : Int32) : q_wp (F_X12_right (b + 38) m d p) μ (fun r ν => r = (fRight s m d p).1 ∧ rOK μ b (fRight s m d p).2 0 ν) := by
  have hID := hI.2.2.2.2.1
  have hb := hID.1
  have hb2 := hID.2.1
  unfold F_X12_right
  refine r_start hK hA fun μ hK hA h0 => ?_
  obtain ⟨hM, hL, hO, hT, hD, hR, hN, hU, hP⟩ := id hA
  obtain ⟨R, eR⟩ : ∃ R, R = fRight s m d p := ⟨_, rfl⟩
  rw [← eR]
  unfold fRight at eR
  have no : ¬ (q_inR m 6 ∧ (1 ≤ p.toInt ∧ p.toInt ≤ 10000) ∧ q_inR d (dT (sD s)) ∧ (dRt (sD s)).length < 100 ∧ dSt (sD s) d.toNatClampNeg m.toNatClampNeg ≠ -1) → ((0 : Int32) = 0 ∨ (0 : Int32) = 1) ∧ (0 : Int32) = R.1 ∧ rOK μ b R.2 0 μ := by
    intro h; rw [if_neg h] at eR; rw [eR]; exact ⟨Or.inl rfl, rfl, rOK.rf hA h0⟩
  rw [wp_bn, wp_eq r_isMonth, wp_ite]
  by_cases h1 : q_inR m 6
  rotate_left
  · rw [if_neg h1, if_pos rfl, wp_rz]; exact no fun z => h1 z.1
  rw [if_pos h1, if_neg (by decide), wp_bn, xgI12 hK, show mI μ (64 * 12 + 24) (b + 38) = q_i3 (dT (sD s)) from hD.1, wp_bn, wp_eq (in_cnt (by omega)), wp_ite]
  by_cases h3 : q_inR d (dT (sD s))
  rotate_left
  · rw [if_neg h3, if_pos rfl, wp_rz]; exact no fun z => h3 z.2.2.1
  rw [if_pos h3, if_neg (by decide), wp_bn, wp_eq in_wp, wp_ite, Int32.toInt_toInt64, show (1 : Int64).toInt = 1 from rfl, show (10000 : Int64).toInt = 10000 from rfl]
  by_cases h2 : 1 ≤ p.toInt ∧ p.toInt ≤ 10000
  rotate_left
  · rw [if_neg h2, if_pos rfl, wp_rz]; exact no fun z => h2 z.2.1
  obtain ⟨j, hj, rfl⟩ := inR_i3 h1
  obtain ⟨e, he, rfl⟩ := inR_i3 h3
  rw [i3_toNat (by omega), i3_toNat (by omega)] at eR no
  rw [if_pos h2, if_neg (by decide), wp_bn, xgP12_25 hK, i3m6, i3_add, wp_bn, xl296 hK, i3_toNat (by omega), (hD.2.2.1 e he).1 j hj]
  refine ⟨inA_of (by omega) (by omega), ?_⟩
  rw [wp_ite]
  by_cases h5 : dSt (sD s) e j = -1
  · rw [if_pos h5, wp_rz]; exact no fun z => z.2.2.2.2 h5
  rw [if_neg h5, wp_bn, xgI12 hK, show mI μ (64 * 12 + 30) (b + 38) = q_i3 (dRt (sD s)).length from hD.2.1, wp_ite]
  have heq : q_i3 (dRt (sD s)).length = 100 ↔ (dRt (sD s)).length = 100 := i3_eq (b := 100) (by omega) (by omega)
  by_cases h4 : (dRt (sD s)).length < 100
  rotate_left
  · rw [if_neg (fun z => z (heq.mpr (by omega))), wp_rz]; exact no fun z => h4 z.2.2.2.1
  rw [if_pos (fun z => by have := heq.mp z; omega)]
  rw [if_pos ⟨h1, h2, h3, h4, h5⟩] at eR
  have e0 : mI μ 798 (b + 38) = q_i3 (dRt (sD s)).length := hD.2.1
  have e1 : mI μ 792 (b + 38) = q_i3 (dT (sD s)) := hD.1
  simp (maxSteps := 2000000) (disch := first | assumption | omega | (simp only [K0_sI, K0_sL, K0_tI, K0_tL, K0_nE]; assumption)) only [wp_bn, wp_rt, wp_ite, wp_rz, xgI11, xgL11, xwI11, xpR11, xgI4, xgL4, xwI4, xpR4, xgI7, xgL7, xwI7, xpR7, xgI12, xgL12, xwI12, xpR12, xgP11_0, xgP11_1, xgP11_2, xgP11_3, xgP11_4, xgP11_5, xgP11_6, xgP11_7, xgP4_0, xl115, xs115, xgP4_9, xl120, xs120, xgP7_0, xgP7_1, xl136, xs136, xgP7_2, xl144, xs144, xgP12_0, xl160, xs160, xgP12_4, xl168, xs168, xgP12_5, xl176, xs176, xgP12_6, xl184, xs184, xgP12_7, xl192, xs192, xgP12_8, xl200, xs200, xgP12_11, xl209, xs209, xgP12_12, xl218, xs218, xgP12_13, xl226, xs226, xgP12_14, xl232, xs232, xgP12_15, xl241, xs241, xgP12_16, xl248, xs248, xgP12_17, xl256, xs256, xgP12_18, xl264, xs264, xgP12_19, xl274, xs274, xgP12_20, xl280, xs280, xgP12_22, xl288, xs288, xgP12_25, xl296, xs296, xgP12_26, xl305, xs305, xgP12_27, xl312, xs312, xgP12_28, xl321, xs321, xgP12_29, xl328, xs328, xgP12_31, xl336, xs336, xgP12_33, xl344, xs344, xgP12_46, xl352, xs352, xgP12_47, xl360, xs360, xgP2_0, xpL2_0, xgP2_1, xpL2_1, xgP2_2, xpL2_2, xgI2, xwZ2, xpR2, xmo, xpL_5, xpL_33, xpL_34, xpL_35, xpL_36, xpL_37, Nat.reduceMul, Nat.reduceAdd, mI_sI', mL_sL', mP_sP', aI_tI', aL_tL', aP_tP', mI_sL, mI_sP, mI_tI, mI_tL, mI_tP, mL_sI, mL_sP, mL_tI, mL_tL, mL_tP, mP_sI, mP_sL, mP_tI, mP_tL, mP_tP, aI_sI, aI_sL, aI_sP, aI_tL, aI_tP, aL_sI, aL_sL, aL_sP, aL_tI, aL_tP, aP_sI, aP_sL, aP_sP, aP_tI, aP_tL, mK_sI, mK_sL, mK_sP, mK_tI, mK_tL, mK_tP, mN_sI, mN_sL, mN_sP, mN_tI, mN_tL, mN_tP, mX_sI, mX_sL, mX_sP, mX_tI, mX_tL, mX_tP, mS_sI, mS_sL, mS_sP, mS_tI, mS_tL, mS_tP, mT_sI, mT_sL, mT_sP, mT_tI, mT_tL, mT_tP, e0, e1, i3m2, i3m4, i3m5, i3m6, i3m7, i3m12, i3m60, i3m72, i3m1600, i3r6, i3p1, i3p2, i3p3, i3p4, i3p5, i3p6, i3p7, i3p8, i3p9, i3p20, i3_add, i3_mul, i3_toNat, inA_i3, i3_lt, i3_le, i3_eq]
  refine ⟨by omega, by omega, by omega, by omega, Or.inr trivial, by rw [eR], ?_⟩
  have k60 := kr hK 60 327 (by decide)
  have hC := ((((Md.tI (k := 328) (i := 4 * (dRt (sD s)).length) (v := q_i3 j) k60).tr (Md.tI (k := 328) (a := b + 60) (i := 4 * (dRt (sD s)).length + 1) (v := q_i3 e) k60)).tr (Md.tI (k := 328) (a := b + 60) (i := 4 * (dRt (sD s)).length + 2) (v := p) k60)).tr (Md.tI (k := 328) (a := b + 60) (i := 4 * (dRt (sD s)).length + 3) (v := q_i3 (dT (sD s))) k60)).tr (Md.sI (f := 798) (a := b + 38) (v := q_i3 ((dRt (sD s)).length + 1)) (kr hK 38 12 (by decide)))
  rw [eR]
  refine rOK.of ⟨hM.fr hC.1 rfl, hL.fr hC.1 rfl, hO.fr hC.1 rfl, hT.fr hC.1 rfl, ?_, hR.fr hC.1 rfl, hN.fr hC.1 rfl, hU.fr hC.1 rfl, hP.fr hC.1 rfl⟩ hC rfl (by rw [hC.1.i 803 rfl]; exact h0)
  show RD _ b (vRight (sD s) (q_i3 j, q_i3 e, p, q_i3 (dT (sD s))))
  have hlen : (dRt (vRight (sD s) (q_i3 j, q_i3 e, p, q_i3 (dT (sD s))))).length = (dRt (sD s)).length + 1 := by
    show (dRt (sD s) ++ [_]).length = _; rw [List.length_append]; rfl
  refine ⟨by rw [hC.1.i 792 rfl]; exact hD.1, by rw [hlen, mI_sI']; simp, ?_, fun k hk => ?_⟩
  · rw [hC.1.ai 296 rfl, hC.1.alg 305 rfl, hC.1.alg 321 rfl, hC.1.ai 312 rfl]; exact hD.2.2.1
  · rw [hlen] at hk
    have hg : (dRt (vRight (sD s) (q_i3 j, q_i3 e, p, q_i3 (dT (sD s))))).getD k q_q4 = if k = (dRt (sD s)).length then (q_i3 j, q_i3 e, p, q_i3 (dT (sD s))) else (dRt (sD s)).getD k q_q4 := by
      show (dRt (sD s) ++ [_]).getD k q_q4 = _
      by_cases z : k = (dRt (sD s)).length
      · rw [if_pos z, z]; simp [List.getD_eq_getElem?_getD]
      · rw [if_neg z]; simp only [List.getD_eq_getElem?_getD]; rw [List.getElem?_append_left (by omega)]
    rw [hg]
    simp only [mI_sI', mL_sL', mP_sP', aI_tI', aL_tL', aP_tP', mI_sL, mI_sP, mI_tI, mI_tL, mI_tP, mL_sI, mL_sP, mL_tI, mL_tL, mL_tP, mP_sI, mP_sL, mP_tI, mP_tL, mP_tP, aI_sI, aI_sL, aI_sP, aI_tL, aI_tP, aL_sI, aL_sL, aL_sP, aL_tI, aL_tP, aP_sI, aP_sL, aP_sP, aP_tI, aP_tL, mK_sI, mK_sL, mK_sP, mK_tI, mK_tL, mK_tP, mN_sI, mN_sL, mN_sP, mN_tI, mN_tL, mN_tP, mX_sI, mX_sL, mX_sP, mX_tI, mX_tL, mX_tP, mS_sI, mS_sL, mS_sP, mS_tI, mS_tL, mS_tP, mT_sI, mT_sL, mT_sP, mT_tI, mT_tL, mT_tP]
    by_cases z : k = (dRt (sD s)).length
    · rw [if_pos z, z]; simp
    · obtain ⟨g0, g1, g2, g3⟩ := hD.2.2.2 k (by omega)
      rw [if_neg z]
      refine ⟨?_, ?_, ?_, ?_⟩
      · rw [if_neg (by omega), if_neg (by omega), if_neg (by omega), if_neg (by omega)]; exact g0
      · rw [if_neg (by omega), if_neg (by omega), if_neg (by omega), if_neg (by omega)]; exact g1
      · rw [if_neg (by omega), if_neg (by omega), if_neg (by omega), if_neg (by omega)]; exact g2
      · rw [if_neg (by omega), if_neg (by omega), if_neg (by omega), if_neg (by omega)]; exact g3

def sumTo (f : Nat → Int64) : Nat → Int64
  | 0 => 0
  | n + 1 => sumTo f n + f n
theorem sumTo_congr {f g : Nat → Int64} : ∀ {n : Nat}, (∀ i, i < n → f i = g i) → sumTo f n = sumTo g n
  | 0, _ => rfl
  | n + 1, h => by
    unfold sumTo
    rw [sumTo_congr fun i hi => h i (by omega), h n (by omega)]
theorem sm6_sum (f : Nat → Int64) : sm6 f = sumTo f 6 := by
  unfold sm6 sumTo sumTo sumTo sumTo sumTo sumTo sumTo
  grind
def lpv (v : VD) (j : Nat) : Int32 := if dT v = 0 then 0 else hdP (chn v (dT v - 1) j)
theorem lpv_lat {v : VD} {n j : Nat} (hI : ID v n) (hj : j < 6) : lpv v j = pz (lat v j) := by
  unfold lpv
  by_cases h : dT v = 0
  · rw [if_pos h]; unfold lat; rw [if_pos h]; rfl
  · rw [if_neg h]; exact hd_lat hI hj (by omega)
def q_worth (v : q_VM) (i : Nat) (P : Nat → Int32) : Int64 := vPd v i - vCs v i + sumTo (fun j => (vPs v i j).toInt64 * (P j).toInt64) 6
theorem c_worthOf {μ : Mem} {b i : Nat} {v : q_VM} {vd : VD} (hK : K0 μ b) (hW : WF μ) (hM : q_CM μ b v) (hD : CDx μ b vd) (hi : i < vN v) : F_X11_worthOf b (some (mr μ b i)) μ = some (q_worth v i (lpv vd), μ) := by
  apply eq_wp
  unfold F_X11_worthOf
  obtain ⟨⟨m1, m2, m3, m4⟩, p1, p2, p3, p4, p5⟩ := hM.2 i hi
  rw [wp_bn, wp_gL]
  refine ⟨m1, ?_⟩
  rw [wp_bn, wp_gL]
  refine ⟨m1, ?_⟩
  rw [show mL μ (64 * 1 + 2) (mr μ b i) = vPd v i from p1, show mL μ (64 * 1 + 1) (mr μ b i) = vCs v i from p4]
  refine wp_loop (σ := Int64) (fun f k x => F_X11_worthOf_L13 f b (some (mr μ b i)) x (q_i3 k)) 6 (fun k x ν => ν = μ ∧ x = vPd v i - vCs v i + sumTo (fun j => (vPs v i j).toInt64 * (lpv vd j).toInt64) k) _ ?_ ?_ FU 0 _ μ (by omega) (by show 6 - 0 < 100000; omega) ⟨rfl, ?_⟩
  · rintro f x ν ⟨rfl, rfl⟩
    unfold F_X11_worthOf_L13
    rw [wp_ite, if_pos (by decide), wp_rt]
    exact ⟨rfl, rfl⟩
  · rintro f k x ν hk ⟨rfl, rfl⟩ ih
    show q_wp (F_X11_worthOf_L13 (f + 1) b (some (mr ν b i)) _ (q_i3 k)) ν _
    unfold F_X11_worthOf_L13
    have hle : ¬ (6 : Int32) ≤ q_i3 k := fun z => by have := (i3_le (a := 6) (b := k) (by omega) (by omega)).mp z; omega
    rw [wp_ite, if_neg hle, wp_bn, wp_gP, show mP ν (64 * 1 + 0) (mr ν b i) = some (mr ν b i + 1) from m2]
    refine ⟨m1, ?_⟩
    rw [wp_bn, wp_lI, m4, inA_i3 (by omega), i3_toNat (by omega), p5 k hk]
    refine ⟨m3, hk, ?_⟩
    rw [wp_bn, xpR11 hK, wp_bn, wp_eq (c_latestPrice hK hW hD hk), i3_1]
    refine ih _ ν ⟨rfl, ?_⟩
    show _ = _ + (sumTo _ k + _)
    have e : (if dT vd = 0 then 0 else hdP (chn vd (dT vd - 1) k)) = lpv vd k := rfl
    rw [e]; grind
  · show _ = _ + sumTo _ 0
    unfold sumTo; grind
theorem r_equityOf {μ : Mem} {b i : Nat} {v : q_VM} {P : Nat → Int32} (hK : K0 μ b) (hM : q_RM μ b v) (hP : ∀ j, j < 6 → aI μ 360 (b + 64) j = P j) (hi : i < 12) : F_X12_equityOf (b + 38) (q_i3 i) μ = some (q_worth v i P, μ) := by
  apply eq_wp
  unfold F_X12_equityOf
  obtain ⟨p1, p2, p3, p4, p5⟩ := hM.2 i hi
  rw [wp_bn, xgP12_11 hK, wp_bn, xl209 hK, i3_toNat (by omega), p1]
  refine ⟨inA_of (by omega) hi, ?_⟩
  refine wp_loop (σ := Int64) (fun f k x => F_X12_equityOf_L10 f (b + 38) (q_i3 i) x (q_i3 k)) 6 (fun k x ν => ν = μ ∧ x = vPd v i + (sumTo (fun j => (vPs v i j).toInt64 * (P j).toInt64) k - sumTo (fun j => aL μ 241 (b + 49) (6 * i + j)) k)) _ ?_ ?_ FU 0 _ μ (by omega) (by show 6 - 0 < 100000; omega) ⟨rfl, ?_⟩
  · rintro f x ν ⟨rfl, rfl⟩
    unfold F_X12_equityOf_L10
    rw [wp_ite, if_pos (by decide), wp_rt]
    refine ⟨?_, rfl⟩
    rw [← sm6_sum (fun j => aL ν 241 (b + 49) (6 * i + j)), p4]
    unfold q_worth; grind
  · rintro f k x ν hk ⟨rfl, rfl⟩ ih
    show q_wp (F_X12_equityOf_L10 (f + 1) (b + 38) (q_i3 i) _ (q_i3 k)) ν _
    unfold F_X12_equityOf_L10
    have hle : ¬ (6 : Int32) ≤ q_i3 k := fun z => by have := (i3_le (a := 6) (b := k) (by omega) (by omega)).mp z; omega
    have b1 : 6 * i + k < 72 := by omega
    rw [wp_ite, if_neg hle]
    simp (maxSteps := 2000000) (disch := first | assumption | omega | (simp only [K0_sI, K0_sL, K0_tI, K0_tL, K0_nE]; assumption)) only [wp_bn, xgI11, xgL11, xwI11, xpR11, xgI4, xgL4, xwI4, xpR4, xgI7, xgL7, xwI7, xpR7, xgI12, xgL12, xwI12, xpR12, xgP11_0, xgP11_1, xgP11_2, xgP11_3, xgP11_4, xgP11_5, xgP11_6, xgP11_7, xgP4_0, xl115, xs115, xgP4_9, xl120, xs120, xgP7_0, xgP7_1, xl136, xs136, xgP7_2, xl144, xs144, xgP12_0, xl160, xs160, xgP12_4, xl168, xs168, xgP12_5, xl176, xs176, xgP12_6, xl184, xs184, xgP12_7, xl192, xs192, xgP12_8, xl200, xs200, xgP12_11, xl209, xs209, xgP12_12, xl218, xs218, xgP12_13, xl226, xs226, xgP12_14, xl232, xs232, xgP12_15, xl241, xs241, xgP12_16, xl248, xs248, xgP12_17, xl256, xs256, xgP12_18, xl264, xs264, xgP12_19, xl274, xs274, xgP12_20, xl280, xs280, xgP12_22, xl288, xs288, xgP12_25, xl296, xs296, xgP12_26, xl305, xs305, xgP12_27, xl312, xs312, xgP12_28, xl321, xs321, xgP12_29, xl328, xs328, xgP12_31, xl336, xs336, xgP12_33, xl344, xs344, xgP12_46, xl352, xs352, xgP12_47, xl360, xs360, xgP2_0, xpL2_0, xgP2_1, xpL2_1, xgP2_2, xpL2_2, xgI2, xwZ2, xpR2, xmo, xpL_5, xpL_33, xpL_34, xpL_35, xpL_36, xpL_37, i3m2, i3m4, i3m5, i3m6, i3m7, i3m12, i3m60, i3m72, i3m1600, i3r6, i3p1, i3p2, i3p3, i3p4, i3p5, i3p6, i3p7, i3p8, i3p9, i3p20, i3_add, i3_mul, i3_toNat, inA_i3, i3_lt, i3_le, i3_eq, b1, hk, true_and, p5 k hk, hP k hk]
    refine ih _ ν ⟨rfl, ?_⟩
    show _ = _ + (sumTo _ k + _ - (sumTo _ k + _))
    grind
  · show _ = _ + (sumTo _ 0 - sumTo _ 0)
    unfold sumTo; grind
def absI (x : Int32) : Int32 := if 0 ≤ x then x else 0 - x
def ndT (v : q_VM) (ru : List q_Ru) (T : Int32) (P : Nat → Int32) (i : Nat) (name : Int32) (j : Nat) : Int64 := (absI (vPs v i j)).toInt64 * (if q_rv ru name T (q_i3 j) (P j) (absI (vPs v i j)) 0 0 < 0 then 0 else q_rv ru name T (q_i3 j) (P j) (absI (vPs v i j)) 0 0).toInt64
def q_need (v : q_VM) (ru : List q_Ru) (T : Int32) (P : Nat → Int32) (i : Nat) (name : Int32) : Int64 := sumTo (ndT v ru T P i name) 6
theorem abs_nn {x : Int32} (h : -2000000000 ≤ x.toInt) (h1 : absI x ≤ 0) : absI x = 0 := by
  apply Int32.toInt_inj.mp
  have h0 : (0 : Int32).toInt = 0 := rfl
  rw [Int32.le_iff_toInt_le, h0] at h1
  rw [h0]
  unfold absI at h1 ⊢
  by_cases hx : 0 ≤ x
  · rw [if_pos hx] at h1 ⊢; rw [Int32.le_iff_toInt_le, h0] at hx; omega
  · rw [if_neg hx] at h1 ⊢
    rw [Int32.le_iff_toInt_le, h0] at hx
    have : (0 - x).toInt = - x.toInt := by
      rw [Int32.toInt_sub, h0]
      rw [Int.bmod_eq_of_le] <;> omega
    omega
theorem c_needOf {μ : Mem} {b i c : Nat} {v : q_VM} {vd : VD} {ru : List q_Ru} {T name : Int32} (hK : K0 μ b) (hW : WF μ) (hM : q_CM μ b v) (hD : CDx μ b vd) (hU : CU μ b ru) (hT : mI μ 712 b = T) (hi : i < vN v) (hbd : ∀ j, j < 6 → -2000000000 ≤ (vPs v i j).toInt) : q_wp (F_X11_needOf b (some (mr μ b i)) name) μ (fun r ν => r = q_need v ru T (lpv vd) i name ∧ Md [2136, 451, 2144] μ ν) := by
  unfold F_X11_needOf
  obtain ⟨⟨m1, m2, m3, m4⟩, p1, p2, p3, p4, p5⟩ := hM.2 i hi
  refine wp_loop (σ := Int64) (fun f k x => F_X11_needOf_L5 f b (some (mr μ b i)) name x (q_i3 k)) 6 (fun k x ν => Md [2136, 451, 2144] μ ν ∧ x = sumTo (ndT v ru T (lpv vd) i name) k) _ ?_ ?_ FU 0 _ μ (by omega) (by show 6 - 0 < 100000; omega) ⟨(Md.rf μ).wk rfl, rfl⟩
  · rintro f x ν ⟨hm, rfl⟩
    unfold F_X11_needOf_L5
    rw [wp_ite, if_pos (by decide), wp_rt]
    exact ⟨rfl, hm⟩
  · rintro f k x ν hk ⟨hm, rfl⟩ ih
    show q_wp (F_X11_needOf_L5 (f + 1) b (some (mr μ b i)) name _ (q_i3 k)) ν _
    unfold F_X11_needOf_L5 F_X11_needOf_L69
    have hle : ¬ (6 : Int32) ≤ q_i3 k := fun z => by have := (i3_le (a := 6) (b := k) (by omega) (by omega)).mp z; omega
    have hK1 := hm.k0 hK
    obtain ⟨hW1, hl1⟩ := hm.wf hW rfl
    have hD1 : CDx ν b vd := by
      have f := hm.1
      obtain ⟨h2, h3, h4⟩ := hD
      have el : ∀ i, dy ν b i = dy μ b i := fun i => by unfold dy; rw [hl1]
      refine ⟨by rw [f.i 714 rfl]; exact h2, by rw [hl1]; exact h3, fun d hd => ?_⟩
      obtain ⟨⟨d1, d2, d3, d4, d5, d6, d7, d8, d9, d10⟩, g1, g2⟩ := h4 d hd
      rw [el, f.alg 97 rfl, f.ai 88 rfl, f.ap 86 rfl]
      refine ⟨⟨f.k d1 (by omega), by rw [f.p 0 rfl]; exact d2, by rw [f.p 1 rfl]; exact d3, by rw [f.p 2 rfl]; exact d4, f.k d5 (by omega), f.k d6 (by omega), f.k d7 (by omega), f.n (by omega) d8, f.n (by omega) d9, f.n (by omega) d10⟩, fun j hj => ?_, g2⟩
      exact Ch.fr (fun a ha => f.k rfl ha) (fun a _ => ⟨by rw [f.i 512 rfl], by rw [f.i 513 rfl], by rw [f.p 514 rfl]⟩) _ _ (g1 j hj)
    have hU1 : CU ν b ru := hU.fr hm.1 (by rw [hl1]) rfl
    have m1' : mK ν (mr μ b i) = 1 + 1 := by rw [hm.2.2.1]; exact m1
    rw [wp_ite, if_neg hle, wp_bn, wp_gP, show mP ν (64 * 1 + 0) (mr μ b i) = some (mr μ b i + 1) by rw [hm.2.2.2.2.2.2.1]; exact m2]
    refine ⟨m1', ?_⟩
    rw [wp_bn, wp_lI, show mN ν (mr μ b i + 1) = 6 by rw [hm.2.2.2.1]; exact m4, inA_i3 (by omega), i3_toNat (by omega), show aI ν 104 (mr μ b i + 1) k = vPs v i k by rw [hm.1.ai 104 rfl]; exact p5 k hk]
    refine ⟨by rw [hm.2.2.1]; exact m3, hk, ?_⟩
    show q_wp (if absI (vPs v i k) ≤ 0 then _ else _) ν _
    rw [wp_ite]
    by_cases hz : absI (vPs v i k) ≤ 0
    · rw [if_pos hz, i3_1]
      refine ih _ ν ⟨hm, ?_⟩
      show _ = sumTo _ k + ndT v ru T (lpv vd) i name k
      unfold ndT; rw [abs_nn (hbd k hk) hz]
      show _ = _ + (0 : Int64) * _
      grind
    · rw [if_neg hz, wp_bn, xgP11_1 hK1, wp_bn, xgI11 hK1, wp_bn, xpR11 hK1, wp_bn, wp_eq (c_latestPrice hK1 hW1 hD1 hk), wp_bn, xpR7 hK1, wp_bn, show mI ν (64 * 11 + 8) b = T by rw [hm.1.i _ rfl]; exact hT]
      refine q_wp_mono (c_valueOf hK1 hW1 hU1) ?_
      rintro r ρ ⟨rfl, hm2⟩
      rw [i3_1]
      exact ih _ ρ ⟨(hm.tr hm2).wk rfl, rfl⟩
theorem r_need {μ : Mem} {b i : Nat} {v : q_VM} {ru : List q_Ru} {T name : Int32} {P : Nat → Int32} (hK : K0 μ b) (hM : q_RM μ b v) (hU : RU μ b ru) (hT : mI μ 792 (b + 38) = T) (hP : ∀ j, j < 6 → aI μ 360 (b + 64) j = P j) (hi : i < 12) : q_wp (F_X12_need (b + 38) (q_i3 i) name) μ (fun r ν => r = q_need v ru T P i name ∧ Md [2352, 812, 813] μ ν) := by
  unfold F_X12_need
  obtain ⟨p1, p2, p3, p4, p5⟩ := hM.2 i hi
  refine wp_loop (σ := Int64) (fun f k x => F_X12_need_L5 f (b + 38) (q_i3 i) name x (q_i3 k)) 6 (fun k x ν => Md [2352, 812, 813] μ ν ∧ x = sumTo (ndT v ru T P i name) k) _ ?_ ?_ FU 0 _ μ (by omega) (by show 6 - 0 < 100000; omega) ⟨(Md.rf μ).wk rfl, rfl⟩
  · rintro f x ν ⟨hm, rfl⟩
    unfold F_X12_need_L5
    rw [wp_ite, if_pos (by decide), wp_rt]
    exact ⟨rfl, hm⟩
  · rintro f k x ν hk ⟨hm, rfl⟩ ih
    show q_wp (F_X12_need_L5 (f + 1) (b + 38) (q_i3 i) name _ (q_i3 k)) ν _
    unfold F_X12_need_L5 F_X12_need_L68
    have hle : ¬ (6 : Int32) ≤ q_i3 k := fun z => by have := (i3_le (a := 6) (b := k) (by omega) (by omega)).mp z; omega
    have hK1 := hm.k0 hK
    have hU1 := hU.fr hm.1 rfl
    have b1 : 6 * i + k < 72 := by omega
    have q1 : aI ν 232 (b + 48) (6 * i + k) = vPs v i k := by rw [hm.1.ai 232 rfl]; exact p5 k hk
    have q2 : aI ν 360 (b + 64) k = P k := by rw [hm.1.ai 360 rfl]; exact hP k hk
    have q3 : mI ν 792 (b + 38) = T := by rw [hm.1.i 792 rfl]; exact hT
    rw [wp_ite, if_neg hle]
    simp (maxSteps := 2000000) (disch := first | assumption | omega | (simp only [K0_sI, K0_sL, K0_tI, K0_tL, K0_nE]; assumption)) only [wp_bn, xgI11, xgL11, xwI11, xpR11, xgI4, xgL4, xwI4, xpR4, xgI7, xgL7, xwI7, xpR7, xgI12, xgL12, xwI12, xpR12, xgP11_0, xgP11_1, xgP11_2, xgP11_3, xgP11_4, xgP11_5, xgP11_6, xgP11_7, xgP4_0, xl115, xs115, xgP4_9, xl120, xs120, xgP7_0, xgP7_1, xl136, xs136, xgP7_2, xl144, xs144, xgP12_0, xl160, xs160, xgP12_4, xl168, xs168, xgP12_5, xl176, xs176, xgP12_6, xl184, xs184, xgP12_7, xl192, xs192, xgP12_8, xl200, xs200, xgP12_11, xl209, xs209, xgP12_12, xl218, xs218, xgP12_13, xl226, xs226, xgP12_14, xl232, xs232, xgP12_15, xl241, xs241, xgP12_16, xl248, xs248, xgP12_17, xl256, xs256, xgP12_18, xl264, xs264, xgP12_19, xl274, xs274, xgP12_20, xl280, xs280, xgP12_22, xl288, xs288, xgP12_25, xl296, xs296, xgP12_26, xl305, xs305, xgP12_27, xl312, xs312, xgP12_28, xl321, xs321, xgP12_29, xl328, xs328, xgP12_31, xl336, xs336, xgP12_33, xl344, xs344, xgP12_46, xl352, xs352, xgP12_47, xl360, xs360, xgP2_0, xpL2_0, xgP2_1, xpL2_1, xgP2_2, xpL2_2, xgI2, xwZ2, xpR2, xmo, xpL_5, xpL_33, xpL_34, xpL_35, xpL_36, xpL_37, i3m2, i3m4, i3m5, i3m6, i3m7, i3m12, i3m60, i3m72, i3m1600, i3r6, i3p1, i3p2, i3p3, i3p4, i3p5, i3p6, i3p7, i3p8, i3p9, i3p20, i3_add, i3_mul, i3_toNat, inA_i3, i3_lt, i3_le, i3_eq, Nat.reduceMul, Nat.reduceAdd, b1, hk, true_and, q1, q2, q3]
    refine q_wp_mono (r_ruleOf hK1 hU1) ?_
    rintro r ρ ⟨rfl, hm2⟩
    rw [wp_ite]
    have hm3 := (hm.tr hm2).wk (T := [2352, 812, 813]) rfl
    have h0 : (0 : Int32).toInt = 0 := rfl
    show if q_rv ru name T (q_i3 k) (P k) (absI (vPs v i k)) 0 0 ≤ 0 then _ else _
    by_cases hz : q_rv ru name T (q_i3 k) (P k) (absI (vPs v i k)) 0 0 ≤ 0
    · rw [if_pos hz]
      refine ih _ ρ ⟨hm3, ?_⟩
      show _ = sumTo _ k + ndT v ru T P i name k
      have : (if q_rv ru name T (q_i3 k) (P k) (absI (vPs v i k)) 0 0 < 0 then 0 else q_rv ru name T (q_i3 k) (P k) (absI (vPs v i k)) 0 0) = 0 := by
        by_cases hq : q_rv ru name T (q_i3 k) (P k) (absI (vPs v i k)) 0 0 < 0
        · rw [if_pos hq]
        · rw [if_neg hq]
          apply Int32.toInt_inj.mp
          rw [Int32.le_iff_toInt_le] at hz; rw [Int32.lt_iff_toInt_lt] at hq; omega
      unfold ndT; rw [this]
      show _ = _ + _ * (0 : Int64)
      grind
    · rw [if_neg hz]
      refine ih _ ρ ⟨hm3, ?_⟩
      have : ¬ q_rv ru name T (q_i3 k) (P k) (absI (vPs v i k)) 0 0 < 0 := fun q => hz (by rw [Int32.le_iff_toInt_le]; rw [Int32.lt_iff_toInt_lt] at q; omega)
      show _ = sumTo _ k + ndT v ru T P i name k
      unfold ndT; rw [if_neg this]; rfl

theorem r_latestPrices {μ : Mem} {b n : Nat} {v : VD} (hK : K0 μ b) (hD : RD μ b v) (hI : ID v n) : q_wp (F_X12_latestPrices (b + 38)) μ (fun _ ν => Md [2360] μ ν ∧ ∀ j, j < 6 → aI ν 360 (b + 64) j = pz (lat v j)) := by
  unfold F_X12_latestPrices
  refine wp_loop (σ := Unit) (fun f k _ => F_X12_latestPrices_L2 f (b + 38) (q_i3 k)) 6 (fun k _ ν => Md [2360] μ ν ∧ ∀ j, j < k → aI ν 360 (b + 64) j = pz (lat v j)) _ ?_ ?_ FU 0 () μ (by omega) (by show 6 - 0 < 100000; omega) ⟨(Md.rf μ).wk rfl, fun j hj => by omega⟩
  · rintro f _ ν h
    unfold F_X12_latestPrices_L2
    rw [wp_ite, if_pos (by decide), wp_rt]; exact h
  · rintro f k _ ν hk ⟨hm, hp⟩ ih
    show q_wp (F_X12_latestPrices_L2 (f + 1) (b + 38) (q_i3 k)) ν _
    unfold F_X12_latestPrices_L2 F_X12_latestPrices_L31
    have hle : ¬ (6 : Int32) ≤ q_i3 k := fun z => by have := (i3_le (a := 6) (b := k) (by omega) (by omega)).mp z; omega
    have hK1 := hm.k0 hK
    have hD1 := hD.fr hm.1 rfl
    have step : ∀ x, x = pz (lat v k) → q_wp (F_X12_latestPrices_L2 f (b + 38) (q_i3 (k + 1))) (tI ν 360 (b + 64) k x) (fun _ ν => Md [2360] μ ν ∧ ∀ j, j < 6 → aI ν 360 (b + 64) j = pz (lat v j)) := by
      intro x hx
      refine ih () _ ⟨(hm.tr (Md.tI (kr hK1 64 359 (by decide)))).wk rfl, fun j hj => ?_⟩
      rw [aI_tI']
      by_cases e : j = k
      · rw [if_pos ⟨rfl, rfl, e⟩, hx, e]
      · rw [if_neg (fun z => e z.2.2)]; exact hp j (by omega)
    rw [wp_ite, if_neg hle]
    simp (maxSteps := 2000000) (disch := first | assumption | omega | (simp only [K0_sI, K0_sL, K0_tI, K0_tL, K0_nE]; assumption)) only [wp_bn, xgI11, xgL11, xwI11, xpR11, xgI4, xgL4, xwI4, xpR4, xgI7, xgL7, xwI7, xpR7, xgI12, xgL12, xwI12, xpR12, xgP11_0, xgP11_1, xgP11_2, xgP11_3, xgP11_4, xgP11_5, xgP11_6, xgP11_7, xgP4_0, xl115, xs115, xgP4_9, xl120, xs120, xgP7_0, xgP7_1, xl136, xs136, xgP7_2, xl144, xs144, xgP12_0, xl160, xs160, xgP12_4, xl168, xs168, xgP12_5, xl176, xs176, xgP12_6, xl184, xs184, xgP12_7, xl192, xs192, xgP12_8, xl200, xs200, xgP12_11, xl209, xs209, xgP12_12, xl218, xs218, xgP12_13, xl226, xs226, xgP12_14, xl232, xs232, xgP12_15, xl241, xs241, xgP12_16, xl248, xs248, xgP12_17, xl256, xs256, xgP12_18, xl264, xs264, xgP12_19, xl274, xs274, xgP12_20, xl280, xs280, xgP12_22, xl288, xs288, xgP12_25, xl296, xs296, xgP12_26, xl305, xs305, xgP12_27, xl312, xs312, xgP12_28, xl321, xs321, xgP12_29, xl328, xs328, xgP12_31, xl336, xs336, xgP12_33, xl344, xs344, xgP12_46, xl352, xs352, xgP12_47, xl360, xs360, xgP2_0, xpL2_0, xgP2_1, xpL2_1, xgP2_2, xpL2_2, xgI2, xwZ2, xpR2, xmo, xpL_5, xpL_33, xpL_34, xpL_35, xpL_36, xpL_37, wp_eq (r_latest hK1 hD1 hI hk), wp_ite, i3m2, i3m4, i3m5, i3m6, i3m7, i3m12, i3m60, i3m72, i3m1600, i3r6, i3p1, i3p2, i3p3, i3p4, i3p5, i3p6, i3p7, i3p8, i3p9, i3p20, i3_add, i3_mul, i3_toNat, inA_i3, i3_lt, i3_le, i3_eq, hk, true_and]
    by_cases e : lat v k = -1
    · rw [if_neg (fun z => z e)]; exact step _ (by unfold pz; rw [if_pos e])
    · rw [if_pos e]; exact step _ (by unfold pz; rw [if_neg e])
def frp (v : q_VT) (p : Int32) (t : Nat) : Bool := v.2 t 3 == 1 && v.2 t 2 == p
theorem c_free {μ : Mem} {b n : Nat} {v : q_VT} {p : Int32} (hK : K0 μ b) (hW : WF μ) (hR : CR μ b v) (hI : IR v n) : F_X11_freeReceiptsOf b p μ = some (q_i3 (q_cnt (frp v p) v.1), μ) := by
  apply eq_wp
  unfold F_X11_freeReceiptsOf
  have k35 := hK.k 35 14 (by decide)
  have hn := hI.1
  refine wp_loop (σ := Int32) (fun f k x => F_X11_freeReceiptsOf_L4 f b p x (q_i3 k)) v.1 (fun k x ν => ν = μ ∧ x = q_i3 (q_cnt (frp v p) k)) _ ?_ ?_ FU 0 0 μ (by omega) (by show _ < 100000; omega) ⟨rfl, rfl⟩
  · rintro f x ν ⟨rfl, rfl⟩
    unfold F_X11_freeReceiptsOf_L4
    simp (maxSteps := 2000000) (disch := first | assumption | omega | (simp only [K0_sI, K0_sL, K0_tI, K0_tL, K0_nE]; assumption)) only [wp_bn, xgI11, xgL11, xwI11, xpR11, xgI4, xgL4, xwI4, xpR4, xgI7, xgL7, xwI7, xpR7, xgI12, xgL12, xwI12, xpR12, xgP11_0, xgP11_1, xgP11_2, xgP11_3, xgP11_4, xgP11_5, xgP11_6, xgP11_7, xgP4_0, xl115, xs115, xgP4_9, xl120, xs120, xgP7_0, xgP7_1, xl136, xs136, xgP7_2, xl144, xs144, xgP12_0, xl160, xs160, xgP12_4, xl168, xs168, xgP12_5, xl176, xs176, xgP12_6, xl184, xs184, xgP12_7, xl192, xs192, xgP12_8, xl200, xs200, xgP12_11, xl209, xs209, xgP12_12, xl218, xs218, xgP12_13, xl226, xs226, xgP12_14, xl232, xs232, xgP12_15, xl241, xs241, xgP12_16, xl248, xs248, xgP12_17, xl256, xs256, xgP12_18, xl264, xs264, xgP12_19, xl274, xs274, xgP12_20, xl280, xs280, xgP12_22, xl288, xs288, xgP12_25, xl296, xs296, xgP12_26, xl305, xs305, xgP12_27, xl312, xs312, xgP12_28, xl321, xs321, xgP12_29, xl328, xs328, xgP12_31, xl336, xs336, xgP12_33, xl344, xs344, xgP12_46, xl352, xs352, xgP12_47, xl360, xs360, xgP2_0, xpL2_0, xgP2_1, xpL2_1, xgP2_2, xpL2_2, xgI2, xwZ2, xpR2, xmo, xpL_5, xpL_33, xpL_34, xpL_35, xpL_36, xpL_37, wp_eq (ls_size hW k35), hR.1, wp_ite, i3m2, i3m4, i3m5, i3m6, i3m7, i3m12, i3m60, i3m72, i3m1600, i3r6, i3p1, i3p2, i3p3, i3p4, i3p5, i3p6, i3p7, i3p8, i3p9, i3p20, i3_add, i3_mul, i3_toNat, inA_i3, i3_lt, i3_le, i3_eq, Nat.le_refl, if_true, wp_rt]
    exact ⟨trivial, trivial⟩
  · rintro f k x ν hk ⟨rfl, rfl⟩ ih
    show q_wp (F_X11_freeReceiptsOf_L4 (f + 1) b p _ (q_i3 k)) ν _
    unfold F_X11_freeReceiptsOf_L4 F_X11_freeReceiptsOf_L50 F_X11_freeReceiptsOf_L51
    obtain ⟨g1, g2⟩ := hR.2 k hk
    have g3 : mI ν (64 * 5 + 3) ((q_lst ν (b + 35)).getD k 0) = v.2 k 3 := g2 3 (by omega)
    have g4 : mI ν (64 * 5 + 2) ((q_lst ν (b + 35)).getD k 0) = v.2 k 2 := g2 2 (by omega)
    have hle : ¬ v.1 ≤ k := by omega
    simp (maxSteps := 2000000) (disch := first | assumption | omega | (simp only [K0_sI, K0_sL, K0_tI, K0_tL, K0_nE]; assumption)) only [wp_bn, xgI11, xgL11, xwI11, xpR11, xgI4, xgL4, xwI4, xpR4, xgI7, xgL7, xwI7, xpR7, xgI12, xgL12, xwI12, xpR12, xgP11_0, xgP11_1, xgP11_2, xgP11_3, xgP11_4, xgP11_5, xgP11_6, xgP11_7, xgP4_0, xl115, xs115, xgP4_9, xl120, xs120, xgP7_0, xgP7_1, xl136, xs136, xgP7_2, xl144, xs144, xgP12_0, xl160, xs160, xgP12_4, xl168, xs168, xgP12_5, xl176, xs176, xgP12_6, xl184, xs184, xgP12_7, xl192, xs192, xgP12_8, xl200, xs200, xgP12_11, xl209, xs209, xgP12_12, xl218, xs218, xgP12_13, xl226, xs226, xgP12_14, xl232, xs232, xgP12_15, xl241, xs241, xgP12_16, xl248, xs248, xgP12_17, xl256, xs256, xgP12_18, xl264, xs264, xgP12_19, xl274, xs274, xgP12_20, xl280, xs280, xgP12_22, xl288, xs288, xgP12_25, xl296, xs296, xgP12_26, xl305, xs305, xgP12_27, xl312, xs312, xgP12_28, xl321, xs321, xgP12_29, xl328, xs328, xgP12_31, xl336, xs336, xgP12_33, xl344, xs344, xgP12_46, xl352, xs352, xgP12_47, xl360, xs360, xgP2_0, xpL2_0, xgP2_1, xpL2_1, xgP2_2, xpL2_2, xgI2, xwZ2, xpR2, xmo, xpL_5, xpL_33, xpL_34, xpL_35, xpL_36, xpL_37, wp_eq (ls_size hW k35), hR.1, wp_ite, i3m2, i3m4, i3m5, i3m6, i3m7, i3m12, i3m60, i3m72, i3m1600, i3r6, i3p1, i3p2, i3p3, i3p4, i3p5, i3p6, i3p7, i3p8, i3p9, i3p20, i3_add, i3_mul, i3_toNat, inA_i3, i3_lt, i3_le, i3_eq, hle, if_false, wp_eq (ls_get hW k35 (show k < (q_lst ν (b + 35)).length by rw [hR.1]; exact hk)), wp_cst, wp_gI, g1, g3, g4, true_and]
    have step : ∀ y, y = q_i3 (q_cnt (frp v p) (k + 1)) → q_wp (F_X11_freeReceiptsOf_L4 f b p y (q_i3 (k + 1))) ν (fun a μ' => a = q_i3 (q_cnt (frp v p) v.1) ∧ μ' = ν) := fun y hy => ih y ν ⟨rfl, hy⟩
    have z1 : q_i3 (q_cnt (frp v p) k) + 1 = q_i3 (q_cnt (frp v p) k + 1) := i3_1 _
    have z0 : q_i3 (q_cnt (frp v p) k) + 0 = q_i3 (q_cnt (frp v p) k) := by simp
    have hb := (hI.2 k hk).2
    by_cases e : v.2 k 3 = 0
    · rw [if_pos e, z0]; exact step _ (by rw [cnt_succ]; unfold frp; simp [e])
    · rw [if_neg e]
      have e1 : v.2 k 3 = 1 := hb.resolve_left e
      by_cases e2 : v.2 k 2 = p
      · rw [if_neg (fun z => z e2)]; exact step _ (by rw [cnt_succ]; unfold frp; simp [e1, e2])
      · rw [if_pos e2, z0]; exact step _ (by rw [cnt_succ]; unfold frp; simp [e2])
theorem i64_cnt (n : Nat) (h : n < 1000) : (q_i3 n).toInt64 + 1 = (q_i3 (n + 1)).toInt64 := by
  apply Int64.toInt_inj.mp
  rw [Int64.toInt_add, Int32.toInt_toInt64, Int32.toInt_toInt64, i3_toInt (by omega), i3_toInt (by omega)]
  show ((n : Int) + 1).bmod _ = _
  rw [Int.bmod_eq_of_le] <;> omega
theorem r_free {μ : Mem} {b n : Nat} {v : q_VT} {p : Int32} (hK : K0 μ b) (hR : RR μ b v) (hI : IR v n) : F_X12_money_L136 FU (b + 38) p 0 0 μ = some ((q_i3 (q_cnt (frp v p) v.1)).toInt64, μ) := by
  apply eq_wp
  have hn := hI.1
  refine wp_loop (σ := Int64) (fun f k x => F_X12_money_L136 f (b + 38) p x (q_i3 k)) v.1 (fun k x ν => ν = μ ∧ x = (q_i3 (q_cnt (frp v p) k)).toInt64) _ ?_ ?_ FU 0 0 μ (by omega) (by show _ < 100000; omega) ⟨rfl, rfl⟩
  · rintro f x ν ⟨rfl, rfl⟩
    unfold F_X12_money_L136
    simp (maxSteps := 2000000) (disch := first | assumption | omega | (simp only [K0_sI, K0_sL, K0_tI, K0_tL, K0_nE]; assumption)) only [wp_bn, xgI11, xgL11, xwI11, xpR11, xgI4, xgL4, xwI4, xpR4, xgI7, xgL7, xwI7, xpR7, xgI12, xgL12, xwI12, xpR12, xgP11_0, xgP11_1, xgP11_2, xgP11_3, xgP11_4, xgP11_5, xgP11_6, xgP11_7, xgP4_0, xl115, xs115, xgP4_9, xl120, xs120, xgP7_0, xgP7_1, xl136, xs136, xgP7_2, xl144, xs144, xgP12_0, xl160, xs160, xgP12_4, xl168, xs168, xgP12_5, xl176, xs176, xgP12_6, xl184, xs184, xgP12_7, xl192, xs192, xgP12_8, xl200, xs200, xgP12_11, xl209, xs209, xgP12_12, xl218, xs218, xgP12_13, xl226, xs226, xgP12_14, xl232, xs232, xgP12_15, xl241, xs241, xgP12_16, xl248, xs248, xgP12_17, xl256, xs256, xgP12_18, xl264, xs264, xgP12_19, xl274, xs274, xgP12_20, xl280, xs280, xgP12_22, xl288, xs288, xgP12_25, xl296, xs296, xgP12_26, xl305, xs305, xgP12_27, xl312, xs312, xgP12_28, xl321, xs321, xgP12_29, xl328, xs328, xgP12_31, xl336, xs336, xgP12_33, xl344, xs344, xgP12_46, xl352, xs352, xgP12_47, xl360, xs360, xgP2_0, xpL2_0, xgP2_1, xpL2_1, xgP2_2, xpL2_2, xgI2, xwZ2, xpR2, xmo, xpL_5, xpL_33, xpL_34, xpL_35, xpL_36, xpL_37, Nat.reduceMul, Nat.reduceAdd, hR.1, wp_ite, i3m2, i3m4, i3m5, i3m6, i3m7, i3m12, i3m60, i3m72, i3m1600, i3r6, i3p1, i3p2, i3p3, i3p4, i3p5, i3p6, i3p7, i3p8, i3p9, i3p20, i3_add, i3_mul, i3_toNat, inA_i3, i3_lt, i3_le, i3_eq, Nat.le_refl, if_true, wp_rt]
    exact ⟨trivial, trivial⟩
  · rintro f k x ν hk ⟨rfl, rfl⟩ ih
    show q_wp (F_X12_money_L136 (f + 1) (b + 38) p _ (q_i3 k)) ν _
    unfold F_X12_money_L136 F_X12_money_L179
    have g3 : aI ν 336 (b + 61) (4 * k + 3) = v.2 k 3 := hR.2 k hk 3 (by omega)
    have g4 : aI ν 336 (b + 61) (4 * k + 2) = v.2 k 2 := hR.2 k hk 2 (by omega)
    have hle : ¬ v.1 ≤ k := by omega
    have b3 : 4 * k + 3 < 240 := by omega
    have b2 : 4 * k + 2 < 240 := by omega
    simp (maxSteps := 2000000) (disch := first | assumption | omega | (simp only [K0_sI, K0_sL, K0_tI, K0_tL, K0_nE]; assumption)) only [wp_bn, xgI11, xgL11, xwI11, xpR11, xgI4, xgL4, xwI4, xpR4, xgI7, xgL7, xwI7, xpR7, xgI12, xgL12, xwI12, xpR12, xgP11_0, xgP11_1, xgP11_2, xgP11_3, xgP11_4, xgP11_5, xgP11_6, xgP11_7, xgP4_0, xl115, xs115, xgP4_9, xl120, xs120, xgP7_0, xgP7_1, xl136, xs136, xgP7_2, xl144, xs144, xgP12_0, xl160, xs160, xgP12_4, xl168, xs168, xgP12_5, xl176, xs176, xgP12_6, xl184, xs184, xgP12_7, xl192, xs192, xgP12_8, xl200, xs200, xgP12_11, xl209, xs209, xgP12_12, xl218, xs218, xgP12_13, xl226, xs226, xgP12_14, xl232, xs232, xgP12_15, xl241, xs241, xgP12_16, xl248, xs248, xgP12_17, xl256, xs256, xgP12_18, xl264, xs264, xgP12_19, xl274, xs274, xgP12_20, xl280, xs280, xgP12_22, xl288, xs288, xgP12_25, xl296, xs296, xgP12_26, xl305, xs305, xgP12_27, xl312, xs312, xgP12_28, xl321, xs321, xgP12_29, xl328, xs328, xgP12_31, xl336, xs336, xgP12_33, xl344, xs344, xgP12_46, xl352, xs352, xgP12_47, xl360, xs360, xgP2_0, xpL2_0, xgP2_1, xpL2_1, xgP2_2, xpL2_2, xgI2, xwZ2, xpR2, xmo, xpL_5, xpL_33, xpL_34, xpL_35, xpL_36, xpL_37, Nat.reduceMul, Nat.reduceAdd, hR.1, wp_ite, i3m2, i3m4, i3m5, i3m6, i3m7, i3m12, i3m60, i3m72, i3m1600, i3r6, i3p1, i3p2, i3p3, i3p4, i3p5, i3p6, i3p7, i3p8, i3p9, i3p20, i3_add, i3_mul, i3_toNat, inA_i3, i3_lt, i3_le, i3_eq, hle, if_false, g3, g4, b2, b3, true_and]
    have step : ∀ y, y = (q_i3 (q_cnt (frp v p) (k + 1))).toInt64 → q_wp (F_X12_money_L136 f (b + 38) p y (q_i3 (k + 1))) ν (fun a μ' => a = (q_i3 (q_cnt (frp v p) v.1)).toInt64 ∧ μ' = ν) := fun y hy => ih y ν ⟨rfl, hy⟩
    have hc := q_cnt_le (frp v p) k
    by_cases e2 : v.2 k 2 = p
    · rw [if_neg (fun z => z e2)]
      by_cases e1 : v.2 k 3 = 1
      · rw [if_neg (fun z => z e1)]; exact step _ (by rw [cnt_succ, i64_cnt _ (by omega)]; unfold frp; simp [e1, e2])
      · rw [if_pos e1]; exact step _ (by rw [cnt_succ]; unfold frp; simp [e1])
    · rw [if_pos e2]; exact step _ (by rw [cnt_succ]; unfold frp; simp [e2])
def mny (s : q_St) (i : Nat) (q : Int32) : Int64 := if q = 0 then vPd (sM s) i else if q = 1 then q_worth (sM s) i (lpv (sD s)) else if q = 2 then (if vCl (sM s) i = 0 then 0 else 1) else if q = 3 then (if vFa (sM s) i = 0 then 0 else 1) else if q = 4 then q_need (sM s) (sU s) (q_i3 (dT (sD s))) (lpv (sD s)) i 1 else if q = 5 then q_need (sM s) (sU s) (q_i3 (dT (sD s))) (lpv (sD s)) i 2 else (q_i3 (q_cnt (frp (sR s) (q_i3 i)) (sR s).1)).toInt64
def fMoney (s : q_St) (p q : Int32) : Option Int64 := if q_inR p (vN (sM s)) ∧ q_inR q 7 then some (mny s p.toNatClampNeg q) else none
theorem c_money {μ : Mem} {b c : Nat} {s : q_St} (hK : K0 μ b) (hW : WF μ) (hA : q_AC μ b s) (hI : Iv s c) (hc : c ≤ 600) (p q : Int32) : q_wp (F_X11_money b p q) μ (fun r ν => r = fMoney s p q ∧ cOK μ b s 1 6 ν) := by
  obtain ⟨hM, hL, hO, hT, hD, hR, hN, hU, hP⟩ := id hA
  have hn := hI.1.1
  obtain ⟨F, eF⟩ : ∃ F, F = fMoney s p q := ⟨_, rfl⟩
  rw [← eF]
  unfold fMoney at eF
  unfold F_X11_money F_X11_money_L20
  rw [wp_bn, xpR11 hK, wp_bn, wp_eq (c_memberOf hK hW hM p), wp_ite]
  by_cases h : q_inR p (vN (sM s))
  rotate_left
  · rw [if_neg (fun z => h z.1)] at eF; rw [if_neg h, if_pos rfl, wp_thr]; exact ⟨eF.symm, cOK.nE hK hW hA⟩
  obtain ⟨i, hi, rfl⟩ := inR_i3 h
  rw [i3_toNat (by omega)] at eF
  rw [if_pos h, if_neg (by simp), i3_toNat (by omega), wp_ite]
  have e0 : (0 : Int32).toInt = 0 := rfl
  have e6 : (6 : Int32).toInt = 6 := rfl
  by_cases h2 : q_inR q 7
  rotate_left
  · rw [if_neg (fun z => h2 z.2)] at eF
    by_cases h3 : q < 0
    · rw [if_pos h3, wp_thr]; exact ⟨eF.symm, cOK.nE hK hW hA⟩
    · rw [if_neg h3, wp_ite, if_neg (by rw [Int32.le_iff_toInt_le, e6]; rw [Int32.lt_iff_toInt_lt, e0] at h3; unfold q_inR at h2; omega), wp_thr]; exact ⟨eF.symm, cOK.nE hK hW hA⟩
  rw [if_pos ⟨h, h2⟩] at eF
  obtain ⟨h3, h4⟩ := id h2
  rw [if_neg (by rw [Int32.lt_iff_toInt_lt, e0]; omega), wp_ite, if_pos (by rw [Int32.le_iff_toInt_le, e6]; omega)]
  obtain ⟨⟨m1, m2, m3, m4⟩, q1, q2, q3, q_q4, q5⟩ := hM.2 i hi
  have hbd : ∀ j, j < 6 → -2000000000 ≤ (vPs (sM s) i j).toInt := fun j hj => by have := (hI.1.2.2.2.1 i (by omega) j hj).1; omega
  have hok := cOK.rf (x := 1) (y := 6) hK hW hA
  obtain ⟨j, hj, rfl⟩ := inR_i3 h2
  unfold mny at eF
  rw [eF]
  rcases (show j = 0 ∨ j = 1 ∨ j = 2 ∨ j = 3 ∨ j = 4 ∨ j = 5 ∨ j = 6 by omega) with rfl | rfl | rfl | rfl | rfl | rfl | rfl
  · simp (decide := true) only [swF_cons, swF_nil, if_true, wp_bn, wp_rt, wp_gL]
    exact ⟨m1, by rw [show mL μ (64 * 1 + 2) (mr μ b i) = vPd (sM s) i from q1], hok⟩
  · simp (decide := true) only [swF_cons, swF_nil, if_true, if_false, wp_bn, wp_rt]
    rw [xpR11 hK, wp_eq (c_worthOf hK hW hM hD.x hi)]
    exact ⟨rfl, hok⟩
  · simp (decide := true) only [swF_cons, swF_nil, if_true, if_false, wp_bn, wp_rt, wp_gI, wp_ite]
    rw [show mI μ (64 * 1 + 3) (mr μ b i) = vCl (sM s) i from q2]
    refine ⟨m1, ?_⟩
    by_cases e : vCl (sM s) i = 0
    · rw [if_pos e, if_pos e]; exact ⟨rfl, hok⟩
    · rw [if_neg e, if_neg e]; exact ⟨rfl, hok⟩
  · simp (decide := true) only [swF_cons, swF_nil, if_true, if_false, wp_bn, wp_rt, wp_gI, wp_ite]
    rw [show mI μ (64 * 1 + 4) (mr μ b i) = vFa (sM s) i from q3]
    refine ⟨m1, ?_⟩
    by_cases e : vFa (sM s) i = 0
    · rw [if_pos e, if_pos e]; exact ⟨rfl, hok⟩
    · rw [if_neg e, if_neg e]; exact ⟨rfl, hok⟩
  · simp (decide := true) only [swF_cons, swF_nil, if_true, if_false, wp_bn, wp_rt]
    rw [xpR11 hK]
    refine q_wp_mono (c_needOf (c := c) hK hW hM hD.x hU hD.1 hi hbd) ?_
    rintro r ν ⟨rfl, hm⟩
    exact ⟨rfl, cOK.md hK hA hm hW rfl rfl rfl rfl⟩
  · simp (decide := true) only [swF_cons, swF_nil, if_true, if_false, wp_bn, wp_rt]
    rw [xpR11 hK]
    refine q_wp_mono (c_needOf (c := c) hK hW hM hD.x hU hD.1 hi hbd) ?_
    rintro r ν ⟨rfl, hm⟩
    exact ⟨rfl, cOK.md hK hA hm hW rfl rfl rfl rfl⟩
  · simp (decide := true) only [swF_cons, swF_nil, if_false, wp_bn, wp_rt]
    rw [xpR11 hK, wp_eq (c_free hK hW hR hI.2.2.2.2.2.1)]
    exact ⟨rfl, hok⟩
theorem worth_congr {v : q_VM} {i : Nat} {P Q : Nat → Int32} (h : ∀ j, j < 6 → P j = Q j) : q_worth v i P = q_worth v i Q := by
  unfold q_worth; rw [sumTo_congr fun j hj => by rw [h j hj]]
theorem need_congr {v : q_VM} {ru : List q_Ru} {T : Int32} {i : Nat} {n : Int32} {P Q : Nat → Int32} (h : ∀ j, j < 6 → P j = Q j) : q_need v ru T P i n = q_need v ru T Q i n := by
  unfold q_need; exact sumTo_congr fun j hj => by unfold ndT; rw [h j hj]
theorem r_money {μ : Mem} {b c : Nat} {s : q_St} (hK : K0 μ b) (hA : q_AR μ b s) (hI : Iv s c) (p q : Int32) : q_wp (F_X12_money (b + 38) p q) μ (fun r ν => (∀ x, fMoney s p q = some x → r = x) ∧ rOK μ b s (if fMoney s p q = none then 1 else 0) ν) := by
  have hn := hI.1.1
  have hID := hI.2.2.2.2.1
  unfold F_X12_money F_X12_money_L25
  refine r_start hK hA fun μ hK hA h0 => ?_
  obtain ⟨hM, hL, hO, hT, hD, hR, hN, hU, hP⟩ := id hA
  obtain ⟨F, eF⟩ : ∃ F, F = fMoney s p q := ⟨_, rfl⟩
  rw [← eF]
  unfold fMoney at eF
  have no : F = none → q_wp (bn (wI 12 35 (some (b + 38)) (1 : Int32)) fun _ => rt (0 : Int64)) μ (fun r ν => (∀ x, F = some x → r = x) ∧ rOK μ b s (if F = none then 1 else 0) ν) := by
    intro h
    rw [h, wp_bn, xwI12 hK, wp_rt]
    exact ⟨fun x hx => (by cases hx), rOK.t1 hK hA⟩
  rw [wp_bn, xpR12 hK, wp_bn, wp_eq (r_isMember hK hM hn p), wp_ite]
  by_cases h : q_inR p (vN (sM s))
  rotate_left
  · rw [if_neg h, if_pos rfl]; exact no (by rw [eF, if_neg (fun z => h z.1)])
  rw [if_pos h, if_neg (by decide), wp_bn, wp_eq (in_lit (n := 7) rfl), wp_ite]
  by_cases h2 : q_inR q 7
  rotate_left
  · rw [if_neg h2, if_neg (by decide)]; exact no (by rw [eF, if_neg (fun z => h2 z.2)])
  obtain ⟨i, hi, rfl⟩ := inR_i3 h
  rw [if_pos h2, if_pos (by decide), wp_bn, xpR12 hK, wp_bn]
  rw [if_pos ⟨h, h2⟩, i3_toNat (by omega)] at eF
  refine q_wp_mono (r_latestPrices hK hD hID) ?_
  rintro _ ν ⟨hm, hp⟩
  have hp' : ∀ j, j < 6 → aI ν 360 (b + 64) j = lpv (sD s) j := fun j hj => by rw [hp j hj, lpv_lat hID hj]
  have K1 := hm.k0 hK
  have M1 := hM.fr hm.1 rfl
  have hok : rOK μ b s 0 ν := rOK.md hA h0 hm rfl rfl rfl
  have fin : ∀ r : Int64, r = mny s i q → (∀ x, F = some x → r = x) ∧ rOK μ b s (if F = none then 1 else 0) ν := by
    intro r hr
    rw [eF]; exact ⟨fun x hx => by rw [hr]; exact Option.some.inj hx, hok⟩
  obtain ⟨p1, p2, p3, p4, p5⟩ := M1.2 i (by omega)
  unfold mny at fin
  obtain ⟨j, hj, rfl⟩ := inR_i3 h2
  rcases (show j = 0 ∨ j = 1 ∨ j = 2 ∨ j = 3 ∨ j = 4 ∨ j = 5 ∨ j = 6 by omega) with rfl | rfl | rfl | rfl | rfl | rfl | rfl
  · simp (decide := true) only [swF_cons, swF_nil, if_true, wp_bn, wp_rt] at fin ⊢
    rw [xgP12_11 K1, xl209 K1, i3_toNat (by omega)]
    exact ⟨inA_of (by omega) (by omega), fin _ p1⟩
  · simp (decide := true) only [swF_cons, swF_nil, if_true, if_false, wp_bn, wp_rt] at fin ⊢
    rw [xpR12 K1, wp_eq (r_equityOf K1 M1 hp' (by omega))]
    exact fin _ rfl
  · simp (decide := true) only [swF_cons, swF_nil, if_true, if_false, wp_bn, wp_rt, wp_ite] at fin ⊢
    rw [xgP12_12 K1, xl218 K1, i3_toNat (by omega), p2]
    refine ⟨inA_of (by omega) (by omega), ?_⟩
    by_cases e : vCl (sM s) i = 0
    · rw [if_pos e]; exact fin _ (by rw [if_pos e])
    · rw [if_neg e]; exact fin _ (by rw [if_neg e])
  · simp (decide := true) only [swF_cons, swF_nil, if_true, if_false, wp_bn, wp_rt, wp_ite] at fin ⊢
    rw [xgP12_13 K1, xl226 K1, i3_toNat (by omega), p3]
    refine ⟨inA_of (by omega) (by omega), ?_⟩
    by_cases e : vFa (sM s) i = 0
    · rw [if_pos e]; exact fin _ (by rw [if_pos e])
    · rw [if_neg e]; exact fin _ (by rw [if_neg e])
  · simp (decide := true) only [swF_cons, swF_nil, if_true, if_false, wp_bn, wp_rt] at ⊢
    rw [xpR12 K1]
    refine q_wp_mono (r_need K1 M1 (hU.fr hm.1 rfl) (show mI ν 792 (b + 38) = q_i3 (dT (sD s)) by rw [hm.1.i 792 rfl]; exact hD.1) hp' (by omega)) ?_
    rintro r ρ ⟨rfl, hm2⟩
    rw [eF]; exact ⟨fun x hx => Option.some.inj hx, rOK.md hA h0 (hm.tr hm2) rfl rfl rfl⟩
  · simp (decide := true) only [swF_cons, swF_nil, if_true, if_false, wp_bn, wp_rt] at ⊢
    rw [xpR12 K1]
    refine q_wp_mono (r_need K1 M1 (hU.fr hm.1 rfl) (show mI ν 792 (b + 38) = q_i3 (dT (sD s)) by rw [hm.1.i 792 rfl]; exact hD.1) hp' (by omega)) ?_
    rintro r ρ ⟨rfl, hm2⟩
    rw [eF]; exact ⟨fun x hx => Option.some.inj hx, rOK.md hA h0 (hm.tr hm2) rfl rfl rfl⟩
  · simp (decide := true) only [swF_cons, swF_nil, if_false] at fin ⊢
    rw [wp_eq (r_free K1 (hR.fr hm.1 rfl) hI.2.2.2.2.2.1)]
    exact fin _ rfl
