theorem ok_mmax {α : Type} {Γ : Gam} {y : Mth} {d : Nat} {rv : Rv α} {pc : Nat} {lv : List (Nat × Value)} {st : List Value} {F : M α} {x z : Int32} {idx : Nat} (w1 : Cond.methodLink y.1.cls idx Lib.Math.max.name ∈ lw_g) (w2 : Cond.static Lib.Math.max.name ∈ lw_g) (w3 : Cond.initialized "java/lang/Math" ∈ lw_g) (w4 : Cond.code Lib.Math.max.name Lib.Math.max.code 2 (some .int) ∈ lw_g) (hdep : 1 ≤ d) (hst : st.length ≤ 20) (hd : decode y.2.1 pc = .ok (.invokestatic idx, 3)) (k : Ok Γ y d rv (pc + 3) lv (.int (if x < z then z else x) :: st) F) : Ok Γ y d rv pc lv (.int z :: .int x :: st) F := by
  intro μ w μ' h
  have hm := (k μ w μ' h).1
  refine ⟨hm, ?_⟩
  intro p e s m args below meth c x0 s0 H locs ls hc g1 g2 hS hD hl
  have hts := hc.2.2.2.2.2.1
  have hz := cat_sum st
  exact va_mmax hc.1 hc.2.1 (by rw [hl.1, hc.2.2.2.1]) hc.2.2.2.2.1 (hts _ w1) (hts _ w2) (hts _ w3) (hts _ w4) hdep (by show _ ≤ 64 * d; omega) (by show _ ≤ mX μ' - x0; omega) (by show _ ≤ mS μ' - s0; omega) hd ((k μ w μ' h).2 p e s m args below meth c x0 s0 H locs ls hc g1 g2 hS hD hl)
theorem ok_mmin {α : Type} {Γ : Gam} {y : Mth} {d : Nat} {rv : Rv α} {pc : Nat} {lv : List (Nat × Value)} {st : List Value} {F : M α} {x z : Int32} {idx : Nat} (w1 : Cond.methodLink y.1.cls idx Lib.Math.min.name ∈ lw_g) (w2 : Cond.static Lib.Math.min.name ∈ lw_g) (w3 : Cond.initialized "java/lang/Math" ∈ lw_g) (w4 : Cond.code Lib.Math.min.name Lib.Math.min.code 2 (some .int) ∈ lw_g) (hdep : 1 ≤ d) (hst : st.length ≤ 20) (hd : decode y.2.1 pc = .ok (.invokestatic idx, 3)) (k : Ok Γ y d rv (pc + 3) lv (.int (if z < x then z else x) :: st) F) : Ok Γ y d rv pc lv (.int z :: .int x :: st) F := by
  intro μ w μ' h
  have hm := (k μ w μ' h).1
  refine ⟨hm, ?_⟩
  intro p e s m args below meth c x0 s0 H locs ls hc g1 g2 hS hD hl
  have hts := hc.2.2.2.2.2.1
  have hz := cat_sum st
  exact va_mmin hc.1 hc.2.1 (by rw [hl.1, hc.2.2.2.1]) hc.2.2.2.2.1 (hts _ w1) (hts _ w2) (hts _ w3) (hts _ w4) hdep (by show _ ≤ 64 * d; omega) (by show _ ≤ mX μ' - x0; omega) (by show _ ≤ mS μ' - s0; omega) hd ((k μ w μ' h).2 p e s m args below meth c x0 s0 H locs ls hc g1 g2 hS hD hl)
theorem ok_mabs {α : Type} {Γ : Gam} {y : Mth} {d : Nat} {rv : Rv α} {pc : Nat} {lv : List (Nat × Value)} {st : List Value} {F : M α} {x : Int32} {idx : Nat} (w1 : Cond.methodLink y.1.cls idx Lib.Math.abs.name ∈ lw_g) (w2 : Cond.static Lib.Math.abs.name ∈ lw_g) (w3 : Cond.initialized "java/lang/Math" ∈ lw_g) (w4 : Cond.code Lib.Math.abs.name Lib.Math.abs.code 1 (some .int) ∈ lw_g) (hdep : 1 ≤ d) (hst : st.length ≤ 20) (hd : decode y.2.1 pc = .ok (.invokestatic idx, 3)) (k : Ok Γ y d rv (pc + 3) lv (.int (if 0 ≤ x then x else 0 - x) :: st) F) : Ok Γ y d rv pc lv (.int x :: st) F := by
  intro μ w μ' h
  have hm := (k μ w μ' h).1
  refine ⟨hm, ?_⟩
  intro p e s m args below meth c x0 s0 H locs ls hc g1 g2 hS hD hl
  have hts := hc.2.2.2.2.2.1
  have hz := cat_sum st
  exact va_mabs hc.1 hc.2.1 (by rw [hl.1, hc.2.2.2.1]) hc.2.2.2.2.1 (hts _ w1) (hts _ w2) (hts _ w3) (hts _ w4) hdep (by show _ ≤ 64 * d; omega) (by show _ ≤ mX μ' - x0; omega) (by show _ ≤ mS μ' - s0; omega) hd ((k μ w μ' h).2 p e s m args below meth c x0 s0 H locs ls hc g1 g2 hS hD hl)
/-- how often a loop may go round: far above what any run needs -/
def FU : Nat := 100000
theorem cf_in {C : String} {T : u_T} {N : Nat} (ps : List Nat) (hp : u_ws C T N = ps.filterMap (fun i => lw_tbl[i]?)) (h : (u_ws C T N).all goodWord = true) : ∀ w ∈ u_ws C T N, w ∈ lw_g := fun w hw => by
  have hg := List.all_eq_true.mp h w hw
  rw [hp] at hw
  obtain ⟨i, -, hi⟩ := List.mem_filterMap.mp hw
  exact List.mem_filter.mpr ⟨List.mem_of_getElem? hi, hg⟩
def dvb (v : Value) (t : Nat) : Bool := match v with
  | .int x => decide (x = 0 ∧ t ≠ 1 ∧ t ≠ 2)
  | .long x => decide (x = 0 ∧ t = 1)
  | .null => decide (t = 2)
  | _ => false
theorem dvb_ok {v : Value} {c k : Nat} (h : dvb v (fty c k) = true) : v = dvf c k := by
  unfold dvb at h
  unfold dvf
  cases v <;> simp at h
  · obtain ⟨h1, h2, h3⟩ := h
    rw [if_neg h2, if_neg h3, h1]
  · obtain ⟨h1, h2⟩ := h
    rw [if_pos h2, h1]
  · rw [if_neg (by omega), if_pos h]
theorem df_all {ty : Nat → FieldType} {c N : Nat} (h : ((List.range N).all fun k => dvb (defaultValue (ty k)) (fty c k)) = true) : ∀ k, k < N → defaultValue (ty k) = dvf c k := fun k hk => dvb_ok (List.all_eq_true.mp h k (List.mem_range.mpr hk))
theorem rf_obj {n : String} : ∀ r : Option Nat, narrow (.object n) (va_rf r) = va_rf r ∧ fits (.object n) (va_rf r) = true := fun r => by cases r <;> exact ⟨rfl, rfl⟩
theorem rf_arr {t : FieldType} : ∀ r : Option Nat, narrow (.array t) (va_rf r) = va_rf r ∧ fits (.array t) (va_rf r) = true := fun r => by cases r <;> exact ⟨rfl, rfl⟩
theorem ct_in {α : Type} {Γ : Gam} {y : Mth} {d : Nat} {rv : α → Option Value} {av : List Value} {F : M α} {lv : List (Nat × Value)} (hp : plainName y.1.cls = true) (hl : lv_args 0 av = lv) (hlen : (lg_sl av).length ≤ y.2.2.1) (k : Ok Γ y d (qo Γ rv) 0 lv [] F) : Ct Γ y d rv av F := ct_of hp hlen (by rw [hl]; exact k)
theorem ok_callVI {α : Type} {Γ : Gam} {y : Mth} {d : Nat} {rv : Rv α} {pc : Nat} {lv : List (Nat × Value)} {st : List Value} {F : Int32 → M α} {G : Nat → M Int32} {yc : Mth} {dc : Nat} {r : Option Nat} {idx cn : Nat} {C : String} {T : u_T} {N : Nat} (As rest : List Value) (hC : ∀ b : Nat, Ct Γ yc dc vI (va_rf (some b) :: As) (G b)) (hcl : vcl[cn]? = some (C, T, N)) (hy : CY yc As.length)
    (w1 : Cond.methodLink y.1.cls idx yc.1 ∈ lw_g) (w2 : Cond.instanceMethod yc.1 ∈ lw_g) (w3 : Cond.selects C yc.1 yc.1 ∈ lw_g) (hdep : dc + 1 ≤ d) (hrest : rest.length ≤ 4) (hst : st = As.reverse ++ va_rf r :: rest) (hd : decode y.2.1 pc = .ok (.invokevirtual idx, 3)) (kk : ∀ x : Int32, Ok Γ y d rv (pc + 3) lv (.int x :: rest) (F x)) : Ok Γ y d rv pc lv st (bn (pRc cn r) fun b => bn (G b) F) :=
  ok_callV As rest hC hcl hy w1 w2 w3 hdep hrest hst hd kk
theorem ok_callSI {α : Type} {Γ : Gam} {y : Mth} {d : Nat} {rv : Rv α} {pc : Nat} {lv : List (Nat × Value)} {st : List Value} {F : Int32 → M α} {G : M Int32} {yc : Mth} {dc : Nat} {idx : Nat} (As rest : List Value) (hC : Ct Γ yc dc vI As G) (hy : CY yc As.length)
    (w1 : Cond.methodLink y.1.cls idx yc.1 ∈ lw_g) (w2 : Cond.static yc.1 ∈ lw_g) (hdep : dc + 1 ≤ d) (hrest : rest.length ≤ 4) (hst : st = As.reverse ++ rest) (hd : decode y.2.1 pc = .ok (.invokestatic idx, 3)) (kk : ∀ x : Int32, Ok Γ y d rv (pc + 3) lv (.int x :: rest) (F x)) : Ok Γ y d rv pc lv st (bn G F) :=
  ok_callS As rest hC hy w1 w2 hdep hrest hst hd kk
theorem ok_callVL {α : Type} {Γ : Gam} {y : Mth} {d : Nat} {rv : Rv α} {pc : Nat} {lv : List (Nat × Value)} {st : List Value} {F : Int64 → M α} {G : Nat → M Int64} {yc : Mth} {dc : Nat} {r : Option Nat} {idx cn : Nat} {C : String} {T : u_T} {N : Nat} (As rest : List Value) (hC : ∀ b : Nat, Ct Γ yc dc vL (va_rf (some b) :: As) (G b)) (hcl : vcl[cn]? = some (C, T, N)) (hy : CY yc As.length)
    (w1 : Cond.methodLink y.1.cls idx yc.1 ∈ lw_g) (w2 : Cond.instanceMethod yc.1 ∈ lw_g) (w3 : Cond.selects C yc.1 yc.1 ∈ lw_g) (hdep : dc + 1 ≤ d) (hrest : rest.length ≤ 4) (hst : st = As.reverse ++ va_rf r :: rest) (hd : decode y.2.1 pc = .ok (.invokevirtual idx, 3)) (kk : ∀ x : Int64, Ok Γ y d rv (pc + 3) lv (.long x :: rest) (F x)) : Ok Γ y d rv pc lv st (bn (pRc cn r) fun b => bn (G b) F) :=
  ok_callV As rest hC hcl hy w1 w2 w3 hdep hrest hst hd kk
theorem ok_callSL {α : Type} {Γ : Gam} {y : Mth} {d : Nat} {rv : Rv α} {pc : Nat} {lv : List (Nat × Value)} {st : List Value} {F : Int64 → M α} {G : M Int64} {yc : Mth} {dc : Nat} {idx : Nat} (As rest : List Value) (hC : Ct Γ yc dc vL As G) (hy : CY yc As.length)
    (w1 : Cond.methodLink y.1.cls idx yc.1 ∈ lw_g) (w2 : Cond.static yc.1 ∈ lw_g) (hdep : dc + 1 ≤ d) (hrest : rest.length ≤ 4) (hst : st = As.reverse ++ rest) (hd : decode y.2.1 pc = .ok (.invokestatic idx, 3)) (kk : ∀ x : Int64, Ok Γ y d rv (pc + 3) lv (.long x :: rest) (F x)) : Ok Γ y d rv pc lv st (bn G F) :=
  ok_callS As rest hC hy w1 w2 hdep hrest hst hd kk
theorem ok_callVR {α : Type} {Γ : Gam} {y : Mth} {d : Nat} {rv : Rv α} {pc : Nat} {lv : List (Nat × Value)} {st : List Value} {F : Option Nat → M α} {G : Nat → M (Option Nat)} {yc : Mth} {dc : Nat} {r : Option Nat} {idx cn : Nat} {C : String} {T : u_T} {N : Nat} (As rest : List Value) (hC : ∀ b : Nat, Ct Γ yc dc vP (va_rf (some b) :: As) (G b)) (hcl : vcl[cn]? = some (C, T, N)) (hy : CY yc As.length)
    (w1 : Cond.methodLink y.1.cls idx yc.1 ∈ lw_g) (w2 : Cond.instanceMethod yc.1 ∈ lw_g) (w3 : Cond.selects C yc.1 yc.1 ∈ lw_g) (hdep : dc + 1 ≤ d) (hrest : rest.length ≤ 4) (hst : st = As.reverse ++ va_rf r :: rest) (hd : decode y.2.1 pc = .ok (.invokevirtual idx, 3)) (kk : ∀ x : Option Nat, Ok Γ y d rv (pc + 3) lv (va_rf x :: rest) (F x)) : Ok Γ y d rv pc lv st (bn (pRc cn r) fun b => bn (G b) F) :=
  ok_callV As rest hC hcl hy w1 w2 w3 hdep hrest hst hd kk
theorem ok_callSR {α : Type} {Γ : Gam} {y : Mth} {d : Nat} {rv : Rv α} {pc : Nat} {lv : List (Nat × Value)} {st : List Value} {F : Option Nat → M α} {G : M (Option Nat)} {yc : Mth} {dc : Nat} {idx : Nat} (As rest : List Value) (hC : Ct Γ yc dc vP As G) (hy : CY yc As.length)
    (w1 : Cond.methodLink y.1.cls idx yc.1 ∈ lw_g) (w2 : Cond.static yc.1 ∈ lw_g) (hdep : dc + 1 ≤ d) (hrest : rest.length ≤ 4) (hst : st = As.reverse ++ rest) (hd : decode y.2.1 pc = .ok (.invokestatic idx, 3)) (kk : ∀ x : Option Nat, Ok Γ y d rv (pc + 3) lv (va_rf x :: rest) (F x)) : Ok Γ y d rv pc lv st (bn G F) :=
  ok_callS As rest hC hy w1 w2 hdep hrest hst hd kk
theorem ok_callVV {α : Type} {Γ : Gam} {y : Mth} {d : Nat} {rv : Rv α} {pc : Nat} {lv : List (Nat × Value)} {st : List Value} {F : M α} {G : Nat → M Unit} {yc : Mth} {dc : Nat} {r : Option Nat} {idx cn : Nat} {C : String} {T : u_T} {N : Nat} (As rest : List Value) (hC : ∀ b : Nat, Ct Γ yc dc vV (va_rf (some b) :: As) (G b)) (hcl : vcl[cn]? = some (C, T, N)) (hy : CY yc As.length)
    (w1 : Cond.methodLink y.1.cls idx yc.1 ∈ lw_g) (w2 : Cond.instanceMethod yc.1 ∈ lw_g) (w3 : Cond.selects C yc.1 yc.1 ∈ lw_g) (hdep : dc + 1 ≤ d) (hrest : rest.length ≤ 4) (hst : st = As.reverse ++ va_rf r :: rest) (hd : decode y.2.1 pc = .ok (.invokevirtual idx, 3)) (kk : Ok Γ y d rv (pc + 3) lv rest F) : Ok Γ y d rv pc lv st (bn (pRc cn r) fun b => bn (G b) fun _ => F) :=
  ok_callV As rest hC hcl hy w1 w2 w3 hdep hrest hst hd (fun _ => kk)
theorem ok_callSV {α : Type} {Γ : Gam} {y : Mth} {d : Nat} {rv : Rv α} {pc : Nat} {lv : List (Nat × Value)} {st : List Value} {F : M α} {G : M Unit} {yc : Mth} {dc : Nat} {idx : Nat} (As rest : List Value) (hC : Ct Γ yc dc vV As G) (hy : CY yc As.length)
    (w1 : Cond.methodLink y.1.cls idx yc.1 ∈ lw_g) (w2 : Cond.static yc.1 ∈ lw_g) (hdep : dc + 1 ≤ d) (hrest : rest.length ≤ 4) (hst : st = As.reverse ++ rest) (hd : decode y.2.1 pc = .ok (.invokestatic idx, 3)) (kk : Ok Γ y d rv (pc + 3) lv rest F) : Ok Γ y d rv pc lv st (bn G fun _ => F) :=
  ok_callS As rest hC hy w1 w2 hdep hrest hst hd (fun _ => kk)
def stO (k : Nat) (r : Option Nat) (i : Int32) (v : Option Nat) : M Unit := bn (pArr k r) fun a μ => if ¬ (i < 0 ∨ mN μ a ≤ i.toNatClampNeg) ∧ (v = none ∨ (1 ≤ mK μ (v.getD 0) ∧ mK μ (v.getD 0) ≤ 13)) then some ((), tP μ k a i.toNatClampNeg v) else none
theorem wd_tP {Γ : Gam} {μ : Mem} {H H' : Heap} {a kd i : Nat} {v : Option Nat} {j : Nat} (hD : Wd Γ μ H) (hk : 64 ≤ kd) (hj : kd % 8 = j) (h4 : 4 ≤ j) (hK : mK μ a = kd) (e1 : H'[a]? = some ((arrV (gA Γ j) (mN μ a) (ev μ a)).setSlot i (va_rf v))) (e2 : H'.size = H.size) (e3 : ∀ q, q ≠ a → H'[q]? = H[q]?) : Wd Γ (tP μ kd a i v) H' := by
  have h1 : ¬ kd % 8 = 1 := by omega
  have h4' : 4 ≤ kd % 8 := by omega
  refine wd_aput hD hk hK ?_ e2 e3 rfl rfl rfl rfl rfl (fun b hb => ?_)
  · rw [e1, arrV_store, hj]
    congr 2
    funext q
    by_cases hq : q = i
    · subst hq
      simp [updV, ev, hK, h1, h4', mK_tP, aI_tP, aL_tP, aP_tP, up3_eq]
    · have hz : ∀ {β : Type} (m : Nat → Nat → Nat → β) (v : β), up3 m kd a i v kd a q = m kd a q := fun m v => up3_ne (Or.inr hq)
      simp [updV, hq, ev, hK, h1, h4', mK_tP, aI_tP, aL_tP, aP_tP, hz]
  · funext q
    have hz : ∀ {β : Type} (m : Nat → Nat → Nat → β) (v : β) (g : Nat), up3 m kd a i v g b q = m g b q := fun m v g => up3_ne (Or.inl hb)
    simp only [ev, mK_tP, aI_tP, aL_tP, aP_tP, hz]
    try rfl
theorem ok_stP5 {α : Type} {Γ : Gam} {y : Mth} {d : Nat} {rv : Rv α} {pc : Nat} {lv : List (Nat × Value)} {st : List Value} {F : M α} {r v : Option Nat} {i : Int32} {kd : Nat} (hk : 64 ≤ kd) (hj : kd % 8 = 5) (hd : decode y.2.1 pc = .ok (.aastore, 1)) (kk : Ok Γ y d rv (pc + 1) lv st F) : Ok Γ y d rv pc lv (va_rf v :: .int i :: va_rf r :: st) (bn (stP kd 2 r i v) fun _ => F) := by
  intro μ w μ' h
  obtain ⟨u, μ1, h1, h2⟩ := bn_some h
  obtain ⟨a, μ2, h3, h4⟩ := bn_some h1
  obtain ⟨a', rfl, hK, e⟩ := pArr_some h3
  cases e
  by_cases hin : ¬ (i < 0 ∨ mN μ a ≤ i.toNatClampNeg) ∧ (v = none ∨ mK μ (v.getD 0) = 2 + 1)
  case neg => simp only [if_neg hin] at h4; cases h4
  simp only [if_pos hin] at h4
  cases h4
  refine ⟨(kk _ w μ' h2).1, ?_⟩
  intro p e s m args below meth c x0 s0 H locs ls hc g1 g2 hS hD hl
  have hcell := wd_arr hD hk hK
  rw [hj] at hcell
  have hA := (hc.2.2.2.2.2.2.2.2.1.1.2 5 _ rfl)
  have hlt : i.toNatClampNeg < mN μ a := Nat.not_le.mp fun q => hin.1 (Or.inr q)
  have h0 : ¬ i < 0 := fun q => hin.1 (Or.inl q)
  cases v with
  | none =>
    refine va_WaastN (C := "GrainPit$Month") hc.1 hc.2.1 hcell (hA.1 _ _) (fun h => by cases h) (by rw [arrV_size]; exact hin.1) rfl rfl hd fun H' e1 e2 e3 => ?_
    exact (kk _ w μ' h2).2 p e s m args below meth c x0 s0 H' _ ls hc g1 g2 (hS.put e2 e3 (arr_base hD hk (by omega) hK)) (wd_tP (v := none) hD hk hj (by omega) hK e1 e2 e3) hl
  | some q =>
    have hq : mK μ q = 2 + 1 := hin.2.elim (fun z => nomatch z) (fun z => z)
    obtain ⟨cellV, q1, q2, q3, -⟩ := (hD.2.2 q (by omega)).1.2.1 2 _ hq rfl
    obtain ⟨kA, comp, k1, k2, k3, -⟩ := hA.2
    have hcls := (hc.2.2.2.2.2.2.2.2.1.1.1 2 _ rfl).2
    have hcomp : comp = (gD Γ).1 2 := Option.some.inj (k3.symm.trans hcls.1)
    subst hcomp
    obtain ⟨kC, hkC, -⟩ := hcls.2
    refine W.aast hc.1 hc.2.1 hcell (fun q h => by cases h) (fun h => by cases h) k1 k2 rfl hkC ⟨h0, by rw [arrV_size]; exact hlt⟩ q1 (fun q h => by rw [q3] at h; cases h) (by rw [q2]; exact hkC) (by rw [q2]; exact va_assign hcls) rfl rfl hd fun H' e1 e2 e3 => ?_
    exact (kk _ w μ' h2).2 p e s m args below meth c x0 s0 H' _ ls hc g1 g2 (hS.put e2 e3 (arr_base hD hk (by omega) hK)) (wd_tP (v := some q) hD hk hj (by omega) hK e1 e2 e3) hl
theorem ok_stP6 {α : Type} {Γ : Gam} {y : Mth} {d : Nat} {rv : Rv α} {pc : Nat} {lv : List (Nat × Value)} {st : List Value} {F : M α} {r v : Option Nat} {i : Int32} {kd : Nat} (hk : 64 ≤ kd) (hj : kd % 8 = 6) (hd : decode y.2.1 pc = .ok (.aastore, 1)) (kk : Ok Γ y d rv (pc + 1) lv st F) : Ok Γ y d rv pc lv (va_rf v :: .int i :: va_rf r :: st) (bn (stP kd 8 r i v) fun _ => F) := by
  intro μ w μ' h
  obtain ⟨u, μ1, h1, h2⟩ := bn_some h
  obtain ⟨a, μ2, h3, h4⟩ := bn_some h1
  obtain ⟨a', rfl, hK, e⟩ := pArr_some h3
  cases e
  by_cases hin : ¬ (i < 0 ∨ mN μ a ≤ i.toNatClampNeg) ∧ (v = none ∨ mK μ (v.getD 0) = 8 + 1)
  case neg => simp only [if_neg hin] at h4; cases h4
  simp only [if_pos hin] at h4
  cases h4
  refine ⟨(kk _ w μ' h2).1, ?_⟩
  intro p e s m args below meth c x0 s0 H locs ls hc g1 g2 hS hD hl
  have hcell := wd_arr hD hk hK
  rw [hj] at hcell
  have hA := (hc.2.2.2.2.2.2.2.2.1.1.2 6 _ rfl)
  have hlt : i.toNatClampNeg < mN μ a := Nat.not_le.mp fun q => hin.1 (Or.inr q)
  have h0 : ¬ i < 0 := fun q => hin.1 (Or.inl q)
  cases v with
  | none =>
    refine va_WaastN (C := "GrainPit$Settle") hc.1 hc.2.1 hcell (hA.1 _ _) (fun h => by cases h) (by rw [arrV_size]; exact hin.1) rfl rfl hd fun H' e1 e2 e3 => ?_
    exact (kk _ w μ' h2).2 p e s m args below meth c x0 s0 H' _ ls hc g1 g2 (hS.put e2 e3 (arr_base hD hk (by omega) hK)) (wd_tP (v := none) hD hk hj (by omega) hK e1 e2 e3) hl
  | some q =>
    have hq : mK μ q = 8 + 1 := hin.2.elim (fun z => nomatch z) (fun z => z)
    obtain ⟨cellV, q1, q2, q3, -⟩ := (hD.2.2 q (by omega)).1.2.1 8 _ hq rfl
    obtain ⟨kA, comp, k1, k2, k3, -⟩ := hA.2
    have hcls := (hc.2.2.2.2.2.2.2.2.1.1.1 8 _ rfl).2
    have hcomp : comp = (gD Γ).1 8 := Option.some.inj (k3.symm.trans hcls.1)
    subst hcomp
    obtain ⟨kC, hkC, -⟩ := hcls.2
    refine W.aast hc.1 hc.2.1 hcell (fun q h => by cases h) (fun h => by cases h) k1 k2 rfl hkC ⟨h0, by rw [arrV_size]; exact hlt⟩ q1 (fun q h => by rw [q3] at h; cases h) (by rw [q2]; exact hkC) (by rw [q2]; exact va_assign hcls) rfl rfl hd fun H' e1 e2 e3 => ?_
    exact (kk _ w μ' h2).2 p e s m args below meth c x0 s0 H' _ ls hc g1 g2 (hS.put e2 e3 (arr_base hD hk (by omega) hK)) (wd_tP (v := some q) hD hk hj (by omega) hK e1 e2 e3) hl
theorem lg_len (av : List Value) : (lg_sl av).length = (av.map fun v => v.category).sum := by
  induction av with
  | nil => rfl
  | cons v r ih =>
    have h : lg_sl (v :: r) = (if v.category = 2 then [Slot.val v, .second] else [.val v]) ++ lg_sl r := rfl
    rw [h, List.length_append, ih, List.map_cons, List.sum_cons]
    rcases lv_cat v with e | e <;> simp [e]
