theorem cat_rf (r : Option Nat) : (va_rf r).category = 1 := by cases r <;> rfl
theorem cat_sum (st : List Value) : (st.map fun v => v.category).sum ≤ 2 * st.length := by
  induction st with
  | nil => exact Nat.le_refl _
  | cons v r ih =>
    have h : v.category ≤ 2 := by cases v <;> simp [Value.category]
    simp only [List.map_cons, List.sum_cons, List.length_cons]
    omega
def dvf (c k : Nat) : Value := if fty c k = 1 then .long 0 else if fty c k = 2 then .null else .int 0
/-- a cell more: the world behind it -/
theorem wd_new {Γ : Gam} {μ μ' : Mem} {H H' : Heap} (hD : Wd Γ μ H) (e2 : H'.size = H.size + 1) (e3 : ∀ q, q < H.size → H'[q]? = H[q]?) (hb : gB Γ ≤ H.size) (hfresh : mK μ (mX μ) = 0 ∨ True)
    (m1 : ∀ b, b ≠ mX μ → mK μ' b = mK μ b) (m2 : ∀ b, b ≠ mX μ → mN μ' b = mN μ b) (m3 : mX μ' = mX μ + 1) (m5 : mT μ' = mT μ) (hf : ∀ c b j, b ≠ mX μ → fv μ' c b j = fv μ c b j) (he : ∀ b, b ≠ mX μ → ev μ' b = ev μ b) (hn : atC Γ μ' (mX μ) H') : Wd Γ μ' H' := by
  refine ⟨by rw [e2, m3, hD.1], m5.trans hD.2.1, fun b hbk => ?_⟩
  by_cases hbx : b = mX μ
  · subst hbx
    exact ⟨⟨by rw [e2, hD.1]; exact Nat.lt_succ_self _, hn⟩, fun _ => by rw [← hD.1]; exact hb⟩
  · rw [m1 b hbx] at hbk ⊢
    obtain ⟨⟨hlt, hat⟩, hbase⟩ := hD.2.2 b hbk
    refine ⟨⟨by omega, fun c q hc hq => ?_, fun h => ?_⟩, hbase⟩
    · rw [m1 b hbx] at hc
      exact ((hat.1 c q hc hq).kept (e3 b hlt)).to (fun j _ => (hf c b j hbx).symm)
    · rw [m1 b hbx] at h ⊢
      rw [e3 b hlt, m2 b hbx, he b hbx]
      exact hat.2 h
theorem vs_grow {A : Nat → Prop} {H0 H H1 : Heap} {locs : List Loc} (h : va_S A H0 H locs) (z : H1.size = H.size + 1) (oq : ∀ q, q < H.size → H1[q]? = H[q]?) : va_S A H0 H1 locs := ⟨Nat.le_trans h.1 (by omega), fun q h1 h2 => (oq q (Nat.lt_of_lt_of_le h1 h.1)).trans (h.2.1 q h1 h2), h.2.2⟩
theorem ok_newO {α : Type} {Γ : Gam} {y : Mth} {d : Nat} {rv : Rv α} {pc : Nat} {lv : List (Nat × Value)} {st : List Value} {F : Option Nat → M α} {idx cn : Nat} {C : String} {T : u_T} {N : Nat} (hF : CF cn C T N) (ty : Nat → FieldType) (hty : ∀ k, k < N → parseFieldDescriptor (T k).2.2.1 = some (ty k)) (hdf : ∀ k, k < N → defaultValue (ty k) = dvf cn k)
    (w1 : Cond.classLink y.1.cls idx C ∈ lw_g) (w2 : Cond.instantiable C N ∈ lw_g) (w3 : Cond.initialized C ∈ lw_g) (hd : decode y.2.1 pc = .ok (.new idx, 3)) (kk : ∀ r : Option Nat, Ok Γ y d rv (pc + 3) lv (va_rf r :: st) (F r)) : Ok Γ y d rv pc lv st (bn (newO cn N) F) := by
  intro μ w μ' h
  obtain ⟨u, μ1, h1, h2⟩ := bn_some h
  cases h1
  have hm := (kk _ _ w μ' h2).1
  rw [mX_nO, mS_nO] at hm
  refine ⟨⟨by omega, by omega⟩, ?_⟩
  intro p e s m args below meth c x0 s0 H locs ls hc g1 g2 hS hD hl
  have hts := hc.2.2.2.2.2.1
  have hKn := hc.2.2.2.2.2.2.2.2.1.1.1 cn _ hF.1
  refine W.newcK hc.1 hc.2.1 hc.2.2.2.2.1 (hts _ w1) (hts _ w2) (hts _ w3) rfl hd (by show _ ≤ mX μ' - x0; omega) (by show _ ≤ mS μ' - s0; omega) hKn.2.1 hD.1 fun H' kC hkC e1 e2 e3 => ?_
  have hlen : cn < 14 := by
    have hl : cn < vcl.length := (List.getElem?_eq_some_iff.mp hF.1).1
    exact hl
  have hD' : Wd Γ (nO cn N μ) H' := by
    refine wd_new hD (by rw [e2, hD.1]) (fun q hq => e3 q (by rw [← hD.1]; exact hq)) (Nat.le_trans hc.2.2.2.2.2.2.2.2.2.2.1 hS.1) (Or.inr trivial) (fun b hb => by simp [mK_nO, hb]) (fun b hb => rfl) rfl rfl (fun c b j hb => ?_) (fun b hb => ?_) ⟨fun c q hcq hq => ?_, fun h64 => ?_⟩
    · simp [fv, mI_nO, mL_nO, mP_nO, hb]
    · funext q
      simp [ev, mK_nO, aI_nO, aL_nO, aP_nO, hb]
    · simp only [mK_nO, if_pos] at hcq
      have hcc : cn = c := Nat.succ.inj hcq
      subst hcc
      rw [hF.1] at hq
      cases hq
      refine (u_born ty hts hF.2.1 hKn hkC e1 hty).to (fun k hk => ?_)
      rw [hdf k hk]
      simp [dvf, fv, mI_nO, mL_nO, mP_nO, va_rf]
    · simp only [mK_nO, if_pos] at h64
      omega
  have hW := (kk _ _ w μ' h2).2 p e s m args below meth c x0 s0 H' locs ls hc (by rw [mX_nO]; omega) (by rw [mS_nO]; omega) (vs_grow hS (by rw [e2, hD.1]) (fun q hq => e3 q (by rw [← hD.1]; exact hq))) hD' hl
  rw [mX_nO, mS_nO, show mX μ + 1 - x0 = mX μ - x0 + 1 by omega, show mS μ + N - s0 = mS μ - s0 + N by omega] at hW
  exact hW
theorem ok_newAI {α : Type} {Γ : Gam} {y : Mth} {d : Nat} {rv : Rv α} {pc : Nat} {lv : List (Nat × Value)} {st : List Value} {F : Option Nat → M α} {n : Int32} {kd : Nat} (hk : 64 ≤ kd) (hj : kd % 8 = 0) (w1 : Cond.arrayClass .int ∈ lw_g) (hd : decode y.2.1 pc = .ok (.newarray .int, 2)) (kk : ∀ r : Option Nat, Ok Γ y d rv (pc + 2) lv (va_rf r :: st) (F r)) : Ok Γ y d rv pc lv (.int n :: st) (bn (newA kd n) F) := by
  intro μ w μ' h
  obtain ⟨u, μ1, h1, h2⟩ := bn_some h
  unfold newA at h1
  by_cases hn : ¬ n < 0 ∧ n.toNatClampNeg ≤ 1000000
  case neg => rw [if_neg hn] at h1; cases h1
  rw [if_pos hn] at h1
  cases h1
  have hm := (kk _ _ w μ' h2).1
  rw [mX_nA, mS_nA] at hm
  refine ⟨⟨by omega, by omega⟩, ?_⟩
  intro p e s m args below meth c x0 s0 H locs ls hc g1 g2 hS hD hl
  have hts := hc.2.2.2.2.2.1
  refine va_newaK hc.1 hc.2.1 (atype := .int) (hts _ w1) rfl hd rfl hn.1 rfl (by show n.toNatClampNeg * 4 ≤ 536870912; omega) (by show _ ≤ mX μ' - x0; omega) (by show _ ≤ mS μ' - s0; omega) hD.1 fun H' cA e1 e2 e3 hAr hNm => ?_
  have hcA : cA = gA Γ 0 := Option.some.inj (hNm.symm.trans (hc.2.2.2.2.2.2.2.2.1.1.2 0 _ rfl).2)
  have hD' : Wd Γ (nA kd n.toNatClampNeg μ) H' := by
    refine wd_new hD (by rw [e2, hD.1]) (fun q hq => e3 q (by rw [← hD.1]; exact hq)) (Nat.le_trans hc.2.2.2.2.2.2.2.2.2.2.1 hS.1) (Or.inr trivial) (fun b hb => by simp [mK_nA, hb]) (fun b hb => by simp [mN_nA, hb]) rfl rfl (fun c b j hb => rfl) (fun b hb => ?_) ⟨fun c q hcq hq => ?_, fun h64 => ?_⟩
    · funext q
      simp [ev, mK_nA, aI_nA, aL_nA, aP_nA, hb]
    · simp only [mK_nA, if_pos] at hcq
      have hl : c < vcl.length := (List.getElem?_eq_some_iff.mp hq).1
      have h14 : vcl.length = 14 := rfl
      omega
    · rw [e1, hcA]
      simp only [mK_nA, mN_nA, if_pos, hj]
      congr 2
      funext q
      simp [ev, mK_nA, aI_nA, aL_nA, aP_nA, hj, newarray.typeOf, defaultValue]
  have hW := (kk _ _ w μ' h2).2 p e s m args below meth c x0 s0 H' locs ls hc (by rw [mX_nA]; omega) (by rw [mS_nA]; omega) (vs_grow hS (by rw [e2, hD.1]) (fun q hq => e3 q (by rw [← hD.1]; exact hq))) hD' hl
  rw [mX_nA, mS_nA, show mX μ + 1 - x0 = mX μ - x0 + 1 by omega, show mS μ + n.toNatClampNeg - s0 = mS μ - s0 + n.toNatClampNeg by omega] at hW
  exact hW
theorem ok_newAL {α : Type} {Γ : Gam} {y : Mth} {d : Nat} {rv : Rv α} {pc : Nat} {lv : List (Nat × Value)} {st : List Value} {F : Option Nat → M α} {n : Int32} {kd : Nat} (hk : 64 ≤ kd) (hj : kd % 8 = 1) (w1 : Cond.arrayClass .long ∈ lw_g) (hd : decode y.2.1 pc = .ok (.newarray .long, 2)) (kk : ∀ r : Option Nat, Ok Γ y d rv (pc + 2) lv (va_rf r :: st) (F r)) : Ok Γ y d rv pc lv (.int n :: st) (bn (newA kd n) F) := by
  intro μ w μ' h
  obtain ⟨u, μ1, h1, h2⟩ := bn_some h
  unfold newA at h1
  by_cases hn : ¬ n < 0 ∧ n.toNatClampNeg ≤ 1000000
  case neg => rw [if_neg hn] at h1; cases h1
  rw [if_pos hn] at h1
  cases h1
  have hm := (kk _ _ w μ' h2).1
  rw [mX_nA, mS_nA] at hm
  refine ⟨⟨by omega, by omega⟩, ?_⟩
  intro p e s m args below meth c x0 s0 H locs ls hc g1 g2 hS hD hl
  have hts := hc.2.2.2.2.2.1
  refine va_newaK hc.1 hc.2.1 (atype := .long) (hts _ w1) rfl hd rfl hn.1 rfl (by show n.toNatClampNeg * 8 ≤ 536870912; omega) (by show _ ≤ mX μ' - x0; omega) (by show _ ≤ mS μ' - s0; omega) hD.1 fun H' cA e1 e2 e3 hAr hNm => ?_
  have hcA : cA = gA Γ 1 := Option.some.inj (hNm.symm.trans (hc.2.2.2.2.2.2.2.2.1.1.2 1 _ rfl).2)
  have hD' : Wd Γ (nA kd n.toNatClampNeg μ) H' := by
    refine wd_new hD (by rw [e2, hD.1]) (fun q hq => e3 q (by rw [← hD.1]; exact hq)) (Nat.le_trans hc.2.2.2.2.2.2.2.2.2.2.1 hS.1) (Or.inr trivial) (fun b hb => by simp [mK_nA, hb]) (fun b hb => by simp [mN_nA, hb]) rfl rfl (fun c b j hb => rfl) (fun b hb => ?_) ⟨fun c q hcq hq => ?_, fun h64 => ?_⟩
    · funext q
      simp [ev, mK_nA, aI_nA, aL_nA, aP_nA, hb]
    · simp only [mK_nA, if_pos] at hcq
      have hl : c < vcl.length := (List.getElem?_eq_some_iff.mp hq).1
      have h14 : vcl.length = 14 := rfl
      omega
    · rw [e1, hcA]
      simp only [mK_nA, mN_nA, if_pos, hj]
      congr 2
      funext q
      simp [ev, mK_nA, aI_nA, aL_nA, aP_nA, hj, newarray.typeOf, defaultValue]
  have hW := (kk _ _ w μ' h2).2 p e s m args below meth c x0 s0 H' locs ls hc (by rw [mX_nA]; omega) (by rw [mS_nA]; omega) (vs_grow hS (by rw [e2, hD.1]) (fun q hq => e3 q (by rw [← hD.1]; exact hq))) hD' hl
  rw [mX_nA, mS_nA, show mX μ + 1 - x0 = mX μ - x0 + 1 by omega, show mS μ + n.toNatClampNeg - s0 = mS μ - s0 + n.toNatClampNeg by omega] at hW
  exact hW
theorem ok_newAZ {α : Type} {Γ : Gam} {y : Mth} {d : Nat} {rv : Rv α} {pc : Nat} {lv : List (Nat × Value)} {st : List Value} {F : Option Nat → M α} {n : Int32} {kd : Nat} (hk : 64 ≤ kd) (hj : kd % 8 = 2) (w1 : Cond.arrayClass .boolean ∈ lw_g) (hd : decode y.2.1 pc = .ok (.newarray .boolean, 2)) (kk : ∀ r : Option Nat, Ok Γ y d rv (pc + 2) lv (va_rf r :: st) (F r)) : Ok Γ y d rv pc lv (.int n :: st) (bn (newA kd n) F) := by
  intro μ w μ' h
  obtain ⟨u, μ1, h1, h2⟩ := bn_some h
  unfold newA at h1
  by_cases hn : ¬ n < 0 ∧ n.toNatClampNeg ≤ 1000000
  case neg => rw [if_neg hn] at h1; cases h1
  rw [if_pos hn] at h1
  cases h1
  have hm := (kk _ _ w μ' h2).1
  rw [mX_nA, mS_nA] at hm
  refine ⟨⟨by omega, by omega⟩, ?_⟩
  intro p e s m args below meth c x0 s0 H locs ls hc g1 g2 hS hD hl
  have hts := hc.2.2.2.2.2.1
  refine va_newaK hc.1 hc.2.1 (atype := .boolean) (hts _ w1) rfl hd rfl hn.1 rfl (by show n.toNatClampNeg * 1 ≤ 536870912; omega) (by show _ ≤ mX μ' - x0; omega) (by show _ ≤ mS μ' - s0; omega) hD.1 fun H' cA e1 e2 e3 hAr hNm => ?_
  have hcA : cA = gA Γ 2 := Option.some.inj (hNm.symm.trans (hc.2.2.2.2.2.2.2.2.1.1.2 2 _ rfl).2)
  have hD' : Wd Γ (nA kd n.toNatClampNeg μ) H' := by
    refine wd_new hD (by rw [e2, hD.1]) (fun q hq => e3 q (by rw [← hD.1]; exact hq)) (Nat.le_trans hc.2.2.2.2.2.2.2.2.2.2.1 hS.1) (Or.inr trivial) (fun b hb => by simp [mK_nA, hb]) (fun b hb => by simp [mN_nA, hb]) rfl rfl (fun c b j hb => rfl) (fun b hb => ?_) ⟨fun c q hcq hq => ?_, fun h64 => ?_⟩
    · funext q
      simp [ev, mK_nA, aI_nA, aL_nA, aP_nA, hb]
    · simp only [mK_nA, if_pos] at hcq
      have hl : c < vcl.length := (List.getElem?_eq_some_iff.mp hq).1
      have h14 : vcl.length = 14 := rfl
      omega
    · rw [e1, hcA]
      simp only [mK_nA, mN_nA, if_pos, hj]
      congr 2
      funext q
      simp [ev, mK_nA, aI_nA, aL_nA, aP_nA, hj, newarray.typeOf, defaultValue]
  have hW := (kk _ _ w μ' h2).2 p e s m args below meth c x0 s0 H' locs ls hc (by rw [mX_nA]; omega) (by rw [mS_nA]; omega) (vs_grow hS (by rw [e2, hD.1]) (fun q hq => e3 q (by rw [← hD.1]; exact hq))) hD' hl
  rw [mX_nA, mS_nA, show mX μ + 1 - x0 = mX μ - x0 + 1 by omega, show mS μ + n.toNatClampNeg - s0 = mS μ - s0 + n.toNatClampNeg by omega] at hW
  exact hW
theorem ok_newAC {α : Type} {Γ : Gam} {y : Mth} {d : Nat} {rv : Rv α} {pc : Nat} {lv : List (Nat × Value)} {st : List Value} {F : Option Nat → M α} {n : Int32} {kd : Nat} (hk : 64 ≤ kd) (hj : kd % 8 = 3) (w1 : Cond.arrayClass .char ∈ lw_g) (hd : decode y.2.1 pc = .ok (.newarray .char, 2)) (kk : ∀ r : Option Nat, Ok Γ y d rv (pc + 2) lv (va_rf r :: st) (F r)) : Ok Γ y d rv pc lv (.int n :: st) (bn (newA kd n) F) := by
  intro μ w μ' h
  obtain ⟨u, μ1, h1, h2⟩ := bn_some h
  unfold newA at h1
  by_cases hn : ¬ n < 0 ∧ n.toNatClampNeg ≤ 1000000
  case neg => rw [if_neg hn] at h1; cases h1
  rw [if_pos hn] at h1
  cases h1
  have hm := (kk _ _ w μ' h2).1
  rw [mX_nA, mS_nA] at hm
  refine ⟨⟨by omega, by omega⟩, ?_⟩
  intro p e s m args below meth c x0 s0 H locs ls hc g1 g2 hS hD hl
  have hts := hc.2.2.2.2.2.1
  refine va_newaK hc.1 hc.2.1 (atype := .char) (hts _ w1) rfl hd rfl hn.1 rfl (by show n.toNatClampNeg * 2 ≤ 536870912; omega) (by show _ ≤ mX μ' - x0; omega) (by show _ ≤ mS μ' - s0; omega) hD.1 fun H' cA e1 e2 e3 hAr hNm => ?_
  have hcA : cA = gA Γ 3 := Option.some.inj (hNm.symm.trans (hc.2.2.2.2.2.2.2.2.1.1.2 3 _ rfl).2)
  have hD' : Wd Γ (nA kd n.toNatClampNeg μ) H' := by
    refine wd_new hD (by rw [e2, hD.1]) (fun q hq => e3 q (by rw [← hD.1]; exact hq)) (Nat.le_trans hc.2.2.2.2.2.2.2.2.2.2.1 hS.1) (Or.inr trivial) (fun b hb => by simp [mK_nA, hb]) (fun b hb => by simp [mN_nA, hb]) rfl rfl (fun c b j hb => rfl) (fun b hb => ?_) ⟨fun c q hcq hq => ?_, fun h64 => ?_⟩
    · funext q
      simp [ev, mK_nA, aI_nA, aL_nA, aP_nA, hb]
    · simp only [mK_nA, if_pos] at hcq
      have hl : c < vcl.length := (List.getElem?_eq_some_iff.mp hq).1
      have h14 : vcl.length = 14 := rfl
      omega
    · rw [e1, hcA]
      simp only [mK_nA, mN_nA, if_pos, hj]
      congr 2
      funext q
      simp [ev, mK_nA, aI_nA, aL_nA, aP_nA, hj, newarray.typeOf, defaultValue]
  have hW := (kk _ _ w μ' h2).2 p e s m args below meth c x0 s0 H' locs ls hc (by rw [mX_nA]; omega) (by rw [mS_nA]; omega) (vs_grow hS (by rw [e2, hD.1]) (fun q hq => e3 q (by rw [← hD.1]; exact hq))) hD' hl
  rw [mX_nA, mS_nA, show mX μ + 1 - x0 = mX μ - x0 + 1 by omega, show mS μ + n.toNatClampNeg - s0 = mS μ - s0 + n.toNatClampNeg by omega] at hW
  exact hW
theorem ok_newA4 {α : Type} {Γ : Gam} {y : Mth} {d : Nat} {rv : Rv α} {pc : Nat} {lv : List (Nat × Value)} {st : List Value} {F : Option Nat → M α} {n : Int32} {kd idx : Nat} (hk : 64 ≤ kd) (hj : kd % 8 = 4) (w1 : Cond.classLink y.1.cls idx "java/lang/Object" ∈ lw_g) (w2 : Cond.arrayOver (.object "java/lang/Object") ∈ lw_nn) (hd : decode y.2.1 pc = .ok (.anewarray idx, 3)) (kk : ∀ r : Option Nat, Ok Γ y d rv (pc + 3) lv (va_rf r :: st) (F r)) : Ok Γ y d rv pc lv (.int n :: st) (bn (newA kd n) F) := by
  intro μ w μ' h
  obtain ⟨u, μ1, h1, h2⟩ := bn_some h
  unfold newA at h1
  by_cases hn : ¬ n < 0 ∧ n.toNatClampNeg ≤ 1000000
  case neg => rw [if_neg hn] at h1; cases h1
  rw [if_pos hn] at h1
  cases h1
  have hm := (kk _ _ w μ' h2).1
  rw [mX_nA, mS_nA] at hm
  refine ⟨⟨by omega, by omega⟩, ?_⟩
  intro p e s m args below meth c x0 s0 H locs ls hc g1 g2 hS hD hl
  have hts := hc.2.2.2.2.2.1
  refine W.anew hc.1 hc.2.1 hc.2.2.2.2.1 (hts _ w1) (va_AO.use (hc.2.2.2.2.2.2.2.2.1.2.1 _ w2)) rfl hd rfl hn.1 (by omega) (by show _ ≤ mX μ' - x0; omega) (by show _ ≤ mS μ' - s0; omega) fun cA kA comp f1 f2 f3 f4 => ?_
  have hcA : cA = gA Γ 4 := by
    obtain ⟨_, _, _, _, _, z⟩ := (hc.2.2.2.2.2.2.2.2.1.1.2 4 _ rfl).2
    exact Option.some.inj (f1.symm.trans z)
  generalize hH : H.push { cls := cA, slots := Array.replicate n.toNatClampNeg .null, vm := .none } = H'
  have e1 : H'[mX μ]? = some (arrV cA n.toNatClampNeg (fun _ => .null)) := by rw [← hH, ← arrV_new, ← hD.1]; simp
  have e2 : H'.size = mX μ + 1 := by rw [← hH, Array.size_push, hD.1]
  have e3 : ∀ q, q < mX μ → H'[q]? = H[q]? := fun q hq => by rw [← hH, Array.getElem?_push, if_neg (by rw [hD.1]; exact Nat.ne_of_lt hq)]
  have hD' : Wd Γ (nA kd n.toNatClampNeg μ) H' := by
    refine wd_new hD (by rw [e2, hD.1]) (fun q hq => e3 q (by rw [← hD.1]; exact hq)) (Nat.le_trans hc.2.2.2.2.2.2.2.2.2.2.1 hS.1) (Or.inr trivial) (fun b hb => by simp [mK_nA, hb]) (fun b hb => by simp [mN_nA, hb]) rfl rfl (fun c b j hb => rfl) (fun b hb => ?_) ⟨fun c q hcq hq => ?_, fun h64 => ?_⟩
    · funext q
      simp [ev, mK_nA, aI_nA, aL_nA, aP_nA, hb]
    · simp only [mK_nA, if_pos] at hcq
      have hl : c < vcl.length := (List.getElem?_eq_some_iff.mp hq).1
      have h14 : vcl.length = 14 := rfl
      omega
    · rw [e1, hcA]
      simp only [mK_nA, mN_nA, if_pos, hj]
      congr 2
      funext q
      simp [ev, mK_nA, aI_nA, aL_nA, aP_nA, hj, va_rf]
  have hW := (kk _ _ w μ' h2).2 p e s m args below meth c x0 s0 H' locs ls hc (by rw [mX_nA]; omega) (by rw [mS_nA]; omega) (vs_grow hS (by rw [e2, hD.1]) (fun q hq => e3 q (by rw [← hD.1]; exact hq))) hD' hl
  rw [mX_nA, mS_nA, show mX μ + 1 - x0 = mX μ - x0 + 1 by omega, show mS μ + n.toNatClampNeg - s0 = mS μ - s0 + n.toNatClampNeg by omega] at hW
  rw [hD.1]
  exact hW
theorem ok_newA5 {α : Type} {Γ : Gam} {y : Mth} {d : Nat} {rv : Rv α} {pc : Nat} {lv : List (Nat × Value)} {st : List Value} {F : Option Nat → M α} {n : Int32} {kd idx : Nat} (hk : 64 ≤ kd) (hj : kd % 8 = 5) (w1 : Cond.classLink y.1.cls idx "GrainPit$Month" ∈ lw_g) (w2 : Cond.arrayOver (.object "GrainPit$Month") ∈ lw_nn) (hd : decode y.2.1 pc = .ok (.anewarray idx, 3)) (kk : ∀ r : Option Nat, Ok Γ y d rv (pc + 3) lv (va_rf r :: st) (F r)) : Ok Γ y d rv pc lv (.int n :: st) (bn (newA kd n) F) := by
  intro μ w μ' h
  obtain ⟨u, μ1, h1, h2⟩ := bn_some h
  unfold newA at h1
  by_cases hn : ¬ n < 0 ∧ n.toNatClampNeg ≤ 1000000
  case neg => rw [if_neg hn] at h1; cases h1
  rw [if_pos hn] at h1
  cases h1
  have hm := (kk _ _ w μ' h2).1
  rw [mX_nA, mS_nA] at hm
  refine ⟨⟨by omega, by omega⟩, ?_⟩
  intro p e s m args below meth c x0 s0 H locs ls hc g1 g2 hS hD hl
  have hts := hc.2.2.2.2.2.1
  refine W.anew hc.1 hc.2.1 hc.2.2.2.2.1 (hts _ w1) (va_AO.use (hc.2.2.2.2.2.2.2.2.1.2.1 _ w2)) rfl hd rfl hn.1 (by omega) (by show _ ≤ mX μ' - x0; omega) (by show _ ≤ mS μ' - s0; omega) fun cA kA comp f1 f2 f3 f4 => ?_
  have hcA : cA = gA Γ 5 := by
    obtain ⟨_, _, _, _, _, z⟩ := (hc.2.2.2.2.2.2.2.2.1.1.2 5 _ rfl).2
    exact Option.some.inj (f1.symm.trans z)
  generalize hH : H.push { cls := cA, slots := Array.replicate n.toNatClampNeg .null, vm := .none } = H'
  have e1 : H'[mX μ]? = some (arrV cA n.toNatClampNeg (fun _ => .null)) := by rw [← hH, ← arrV_new, ← hD.1]; simp
  have e2 : H'.size = mX μ + 1 := by rw [← hH, Array.size_push, hD.1]
  have e3 : ∀ q, q < mX μ → H'[q]? = H[q]? := fun q hq => by rw [← hH, Array.getElem?_push, if_neg (by rw [hD.1]; exact Nat.ne_of_lt hq)]
  have hD' : Wd Γ (nA kd n.toNatClampNeg μ) H' := by
    refine wd_new hD (by rw [e2, hD.1]) (fun q hq => e3 q (by rw [← hD.1]; exact hq)) (Nat.le_trans hc.2.2.2.2.2.2.2.2.2.2.1 hS.1) (Or.inr trivial) (fun b hb => by simp [mK_nA, hb]) (fun b hb => by simp [mN_nA, hb]) rfl rfl (fun c b j hb => rfl) (fun b hb => ?_) ⟨fun c q hcq hq => ?_, fun h64 => ?_⟩
    · funext q
      simp [ev, mK_nA, aI_nA, aL_nA, aP_nA, hb]
    · simp only [mK_nA, if_pos] at hcq
      have hl : c < vcl.length := (List.getElem?_eq_some_iff.mp hq).1
      have h14 : vcl.length = 14 := rfl
      omega
    · rw [e1, hcA]
      simp only [mK_nA, mN_nA, if_pos, hj]
      congr 2
      funext q
      simp [ev, mK_nA, aI_nA, aL_nA, aP_nA, hj, va_rf]
  have hW := (kk _ _ w μ' h2).2 p e s m args below meth c x0 s0 H' locs ls hc (by rw [mX_nA]; omega) (by rw [mS_nA]; omega) (vs_grow hS (by rw [e2, hD.1]) (fun q hq => e3 q (by rw [← hD.1]; exact hq))) hD' hl
  rw [mX_nA, mS_nA, show mX μ + 1 - x0 = mX μ - x0 + 1 by omega, show mS μ + n.toNatClampNeg - s0 = mS μ - s0 + n.toNatClampNeg by omega] at hW
  rw [hD.1]
  exact hW
theorem ok_newA6 {α : Type} {Γ : Gam} {y : Mth} {d : Nat} {rv : Rv α} {pc : Nat} {lv : List (Nat × Value)} {st : List Value} {F : Option Nat → M α} {n : Int32} {kd idx : Nat} (hk : 64 ≤ kd) (hj : kd % 8 = 6) (w1 : Cond.classLink y.1.cls idx "GrainPit$Settle" ∈ lw_g) (w2 : Cond.arrayOver (.object "GrainPit$Settle") ∈ lw_nn) (hd : decode y.2.1 pc = .ok (.anewarray idx, 3)) (kk : ∀ r : Option Nat, Ok Γ y d rv (pc + 3) lv (va_rf r :: st) (F r)) : Ok Γ y d rv pc lv (.int n :: st) (bn (newA kd n) F) := by
  intro μ w μ' h
  obtain ⟨u, μ1, h1, h2⟩ := bn_some h
  unfold newA at h1
  by_cases hn : ¬ n < 0 ∧ n.toNatClampNeg ≤ 1000000
  case neg => rw [if_neg hn] at h1; cases h1
  rw [if_pos hn] at h1
  cases h1
  have hm := (kk _ _ w μ' h2).1
  rw [mX_nA, mS_nA] at hm
  refine ⟨⟨by omega, by omega⟩, ?_⟩
  intro p e s m args below meth c x0 s0 H locs ls hc g1 g2 hS hD hl
  have hts := hc.2.2.2.2.2.1
  refine W.anew hc.1 hc.2.1 hc.2.2.2.2.1 (hts _ w1) (va_AO.use (hc.2.2.2.2.2.2.2.2.1.2.1 _ w2)) rfl hd rfl hn.1 (by omega) (by show _ ≤ mX μ' - x0; omega) (by show _ ≤ mS μ' - s0; omega) fun cA kA comp f1 f2 f3 f4 => ?_
  have hcA : cA = gA Γ 6 := by
    obtain ⟨_, _, _, _, _, z⟩ := (hc.2.2.2.2.2.2.2.2.1.1.2 6 _ rfl).2
    exact Option.some.inj (f1.symm.trans z)
  generalize hH : H.push { cls := cA, slots := Array.replicate n.toNatClampNeg .null, vm := .none } = H'
  have e1 : H'[mX μ]? = some (arrV cA n.toNatClampNeg (fun _ => .null)) := by rw [← hH, ← arrV_new, ← hD.1]; simp
  have e2 : H'.size = mX μ + 1 := by rw [← hH, Array.size_push, hD.1]
  have e3 : ∀ q, q < mX μ → H'[q]? = H[q]? := fun q hq => by rw [← hH, Array.getElem?_push, if_neg (by rw [hD.1]; exact Nat.ne_of_lt hq)]
  have hD' : Wd Γ (nA kd n.toNatClampNeg μ) H' := by
    refine wd_new hD (by rw [e2, hD.1]) (fun q hq => e3 q (by rw [← hD.1]; exact hq)) (Nat.le_trans hc.2.2.2.2.2.2.2.2.2.2.1 hS.1) (Or.inr trivial) (fun b hb => by simp [mK_nA, hb]) (fun b hb => by simp [mN_nA, hb]) rfl rfl (fun c b j hb => rfl) (fun b hb => ?_) ⟨fun c q hcq hq => ?_, fun h64 => ?_⟩
    · funext q
      simp [ev, mK_nA, aI_nA, aL_nA, aP_nA, hb]
    · simp only [mK_nA, if_pos] at hcq
      have hl : c < vcl.length := (List.getElem?_eq_some_iff.mp hq).1
      have h14 : vcl.length = 14 := rfl
      omega
    · rw [e1, hcA]
      simp only [mK_nA, mN_nA, if_pos, hj]
      congr 2
      funext q
      simp [ev, mK_nA, aI_nA, aL_nA, aP_nA, hj, va_rf]
  have hW := (kk _ _ w μ' h2).2 p e s m args below meth c x0 s0 H' locs ls hc (by rw [mX_nA]; omega) (by rw [mS_nA]; omega) (vs_grow hS (by rw [e2, hD.1]) (fun q hq => e3 q (by rw [← hD.1]; exact hq))) hD' hl
  rw [mX_nA, mS_nA, show mX μ + 1 - x0 = mX μ - x0 + 1 by omega, show mS μ + n.toNatClampNeg - s0 = mS μ - s0 + n.toNatClampNeg by omega] at hW
  rw [hD.1]
  exact hW
theorem ok_cst {α : Type} {Γ : Gam} {y : Mth} {d : Nat} {rv : Rv α} {pc : Nat} {lv : List (Nat × Value)} {st : List Value} {F : M α} {r : Option Nat} {idx cn : Nat} {C : String} {T : u_T} {N : Nat} (hcl : vcl[cn]? = some (C, T, N)) (w1 : Cond.classLink y.1.cls idx C ∈ lw_g) (hd : decode y.2.1 pc = .ok (.checkcast idx, 3)) (kk : Ok Γ y d rv (pc + 3) lv (va_rf r :: st) F) : Ok Γ y d rv pc lv (va_rf r :: st) (bn (cst cn r) fun _ => F) := by
  intro μ w μ' h
  obtain ⟨u, μ1, h1, h2⟩ := bn_some h
  unfold cst at h1
  cases r with
  | none =>
    cases h1
    exact ok_of (fun hc hl k2 => lv_castN hc.1 hc.2.1 hd (k2 _ hl)) kk μ w μ' h2
  | some a =>
    simp only at h1
    by_cases hK : mK μ a = cn + 1
    case neg => rw [if_neg hK] at h1; cases h1
    rw [if_pos hK] at h1
    cases h1
    refine ⟨(kk μ w μ' h2).1, ?_⟩
    intro p e s m args below meth c x0 s0 H locs ls hc g1 g2 hS hD hl
    obtain ⟨cell, q1, q2, q3, -⟩ := (hD.2.2 a (by omega)).1.2.1 cn _ hK hcl
    have hCA := (hc.2.2.2.2.2.2.2.2.1.1.1 cn _ hcl).2
    exact va_castS hc.1 hc.2.1 hc.2.2.2.2.1 (hc.2.2.2.2.2.1 _ w1) hCA ⟨cell, q1, by rw [q3]; rfl, by rw [q2]; exact hCA.1⟩ hd ((kk μ w μ' h2).2 p e s m args below meth c x0 s0 H locs ls hc g1 g2 hS hD hl)
theorem ok_objInit {α : Type} {Γ : Gam} {y : Mth} {d : Nat} {rv : Rv α} {pc : Nat} {lv : List (Nat × Value)} {st : List Value} {F : M α} {r : Option Nat} {idx : Nat} (w1 : Cond.methodLink y.1.cls idx Lib.objectInit ∈ lw_g) (w2 : Cond.instanceMethod Lib.objectInit ∈ lw_g) (w3 : Cond.code Lib.objectInit ⟨#[0xb1]⟩ 1 none ∈ lw_g) (hr : ∃ a, r = some a) (hdep : 1 ≤ d) (hst : st.length ≤ 20) (hd : decode y.2.1 pc = .ok (.invokespecial idx, 3)) (kk : Ok Γ y d rv (pc + 3) lv st F) : Ok Γ y d rv pc lv (va_rf r :: st) F := by
  obtain ⟨a, rfl⟩ := hr
  intro μ w μ' h
  refine ⟨(kk μ w μ' h).1, ?_⟩
  intro p e s m args below meth c x0 s0 H locs ls hc g1 g2 hS hD hl
  have hts := hc.2.2.2.2.2.1
  refine W.objInit hc.1 hc.2.1 hc.2.2.2.2.1 (hts _ w1) (hts _ w2) (hts _ w3) (a := a) (rest := st) rfl (by show ls.size = _; rw [hl.1, hc.2.2.2.1]) rfl hd hdep ?_ ((kk μ w μ' h).2 p e s m args below meth c x0 s0 H locs ls hc g1 g2 hS hD hl)
  have hz := cat_sum st
  show 2 * 0 + _ + 12 ≤ 64 * d
  omega
