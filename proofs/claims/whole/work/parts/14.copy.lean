theorem own_cast : ∀ c, c < 13 → ∃ q : vw_C, vcl[c]? = some q ∧ Cond.castable q.1 "java/lang/Object" ∈ lw_nn := fun c hc => match c, hc with
  | 0, _ => ⟨_, rfl, nin 1642 (by decide +kernel) rfl⟩
  | 1, _ => ⟨_, rfl, nin 1639 (by decide +kernel) rfl⟩
  | 2, _ => ⟨_, rfl, nin 1636 (by decide +kernel) rfl⟩
  | 3, _ => ⟨_, rfl, nin 1645 (by decide +kernel) rfl⟩
  | 4, _ => ⟨_, rfl, nin 1634 (by decide +kernel) rfl⟩
  | 5, _ => ⟨_, rfl, nin 1644 (by decide +kernel) rfl⟩
  | 6, _ => ⟨_, rfl, nin 1638 (by decide +kernel) rfl⟩
  | 7, _ => ⟨_, rfl, nin 1635 (by decide +kernel) rfl⟩
  | 8, _ => ⟨_, rfl, nin 1643 (by decide +kernel) rfl⟩
  | 9, _ => ⟨_, rfl, nin 1641 (by decide +kernel) rfl⟩
  | 10, _ => ⟨_, rfl, nin 1640 (by decide +kernel) rfl⟩
  | 11, _ => ⟨_, rfl, nin 1633 (by decide +kernel) rfl⟩
  | 12, _ => ⟨_, rfl, nin 1637 (by decide +kernel) rfl⟩
  | c + 13, h => absurd h (by omega)
theorem any_obj {Γ : Gam} {y : Mth} {μ : Mem} {p : Program} {s : State} {m : MethodId} {args : Array Value} {meth : Method} {c : Code} {H : Heap} {q : Nat} (hc : Ctx Γ y p s m args meth c) (hD : Wd Γ μ H) (h1 : 1 ≤ mK μ q) (h2 : mK μ q ≤ 13) : va_Any "java/lang/Object" s H q := by
  obtain ⟨r, hr, hw⟩ := own_cast (mK μ q - 1) (by omega)
  obtain ⟨cell, q1, q2, q3, -⟩ := (hD.2.2 q (by omega)).1.2.1 (mK μ q - 1) r (by omega) hr
  have hCA := (hc.2.2.2.2.2.2.2.2.1.1.1 _ _ hr).2
  obtain ⟨-, kC, hkC, -⟩ := id hCA
  obtain ⟨c0, t0, f1, f2, f3⟩ := Cond.castable_spec (va_Nw.use (A := args) rfl (hc.2.2.2.2.2.2.2.2.1.2.1 _ hw))
  cases hCA.1.symm.trans f1
  refine ⟨cell, q1, by rw [q3]; rfl, ⟨kC, by rw [q2]; exact hkC⟩, fun comp hcomp => ?_⟩
  cases hcomp.symm.trans f2
  rw [q2]
  exact f3
theorem ok_stO {α : Type} {Γ : Gam} {y : Mth} {d : Nat} {rv : Rv α} {pc : Nat} {lv : List (Nat × Value)} {st : List Value} {F : M α} {r v : Option Nat} {i : Int32} {kd : Nat} (hk : 64 ≤ kd) (hj : kd % 8 = 4) (h76 : kd ≠ 76) (hd : decode y.2.1 pc = .ok (.aastore, 1)) (kk : Ok Γ y d rv (pc + 1) lv st F) : Ok Γ y d rv pc lv (va_rf v :: .int i :: va_rf r :: st) (bn (stO kd r i v) fun _ => F) := by
  intro μ w μ' h
  obtain ⟨u, μ1, h1, h2⟩ := bn_some h
  obtain ⟨a, μ2, h3, h4⟩ := bn_some h1
  obtain ⟨a', rfl, hK, e⟩ := pArr_some h3
  cases e
  by_cases hin : ¬ (i < 0 ∨ mN μ a ≤ i.toNatClampNeg) ∧ (v = none ∨ (1 ≤ mK μ (v.getD 0) ∧ mK μ (v.getD 0) ≤ 13))
  case neg => simp only [if_neg hin] at h4; cases h4
  simp only [if_pos hin] at h4
  cases h4
  refine ⟨(kk _ w μ' h2).1, ?_⟩
  intro p e s m args below meth c x0 s0 H locs ls hc g1 g2 hS hD hl
  have hcell := wd_arr hD hk hK
  rw [hj] at hcell
  have hA := (hc.2.2.2.2.2.2.2.2.1.1.2 4 _ rfl)
  have hlt : i.toNatClampNeg < mN μ a := Nat.not_le.mp fun q => hin.1 (Or.inr q)
  have h0 : ¬ i < 0 := fun q => hin.1 (Or.inl q)
  cases v with
  | none =>
    refine va_WaastN (C := "java/lang/Object") hc.1 hc.2.1 hcell (hA.1 _ _) (fun h => by cases h) (by rw [arrV_size]; exact hin.1) rfl rfl hd fun H' e1 e2 e3 => ?_
    exact (kk _ w μ' h2).2 p e s m args below meth c x0 s0 H' _ ls hc g1 g2 (hS.put e2 e3 (arr_base hD hk h76 hK)) (wd_tP (v := none) hD hk hj (by omega) hK e1 e2 e3) hl
  | some q =>
    have hq : 1 ≤ mK μ q ∧ mK μ q ≤ 13 := hin.2.elim (fun z => nomatch z) (fun z => z)
    obtain ⟨cellV, q1, q3, ⟨kC, hkC⟩, hasg⟩ := any_obj hc hD hq.1 hq.2
    obtain ⟨kA, comp, k1, k2, k3, -⟩ := hA.2
    obtain ⟨kE, hkE, -⟩ := Vm.findClass_spec k3
    refine W.aast hc.1 hc.2.1 hcell (fun q h => by cases h) (fun h => by cases h) k1 k2 rfl hkE ⟨h0, by rw [arrV_size]; exact hlt⟩ q1 (fun q h => by rw [h] at q3; cases q3) hkC (hasg _ k3) rfl rfl hd fun H' e1 e2 e3 => ?_
    exact (kk _ w μ' h2).2 p e s m args below meth c x0 s0 H' _ ls hc g1 g2 (hS.put e2 e3 (arr_base hD hk h76 hK)) (wd_tP (v := some q) hD hk hj (by omega) hK e1 e2 e3) hl
theorem nn_toInt {z : Int32} (hz : ¬ z < 0) : z.toInt = (z.toNatClampNeg : Int) := by
  have hz0 : (0 : Int) ≤ z.toInt := by
    have := Int32.not_lt.mp hz
    simpa using Int32.le_iff_toInt_le.mp this
  show z.toInt = ((z.toInt.toNat : Nat) : Int)
  omega
theorem acw : nativeFrameWords "java/lang/System" "arraycopy" 5 ≤ 20 := by decide
/-- arraycopy, what it does to the heap -/
theorem w_copyI {p : Program} {l : Launch} {e : Env} {R : Room} {s : State} {m : MethodId} {args : Array Value} {below : List Frame} {meth : Method} {c : Code} {H : Heap} {locs : List Loc} {cells slots : Nat} {Q : State → Prop} {cc : ByteArray} {pc : Nat} {ls : Array Slot} {rest : List Value} (hexec : p.tables.exec = Jvm.exec) (hb : c.code = cc) (hml : c.maxLocals = ls.size) {own : String} {index : Nat} (hown : s.vm.findClass own = some m.cls) (hlink : (Cond.methodLink own index arraycopyName).before args s = true) (hnat : (Cond.native arraycopyName).before args s = true) (hstat : (Cond.static arraycopyName).before args s = true) (hini : (Cond.initialized "java/lang/System").before args s = true)
    {a0 a : Nat} {c0 c1 : ClassId} {n0 n1 : Nat} {f g : Nat → Int32} (hc0 : H[a0]? = some (arrV c0 n0 (fun j => Value.int (f j)))) (hc1 : H[a]? = some (arrV c1 n1 (fun j => Value.int (g j)))) (hA0 : ArrOfT s c0 .int) (hA1 : ArrOfT s c1 .int) (hR1 : va_RA s c1 .int)
    {sp dp n : Int32} (h1 : ¬ sp < 0) (h2 : ¬ dp < 0) (h3 : ¬ n < 0) (h4 : sp.toNatClampNeg + n.toNatClampNeg ≤ n0) (h5 : dp.toNatClampNeg + n.toNatClampNeg ≤ n1) 
    (hframes : 1 ≤ R.frames) (hlocals : (rest.map fun v => v.category).sum + (nativeFrameWords "java/lang/System" "arraycopy" 5 + 11) ≤ R.locals) (hdg : decode cc pc = .ok (.invokestatic index, 3))
    (kk : ∀ (H1 : Heap) (locs1 : List Loc), H1[a]? = some (arrV c1 n1 (fun j => Value.int (va_cpy f g sp.toNatClampNeg dp.toNatClampNeg n.toNatClampNeg j))) → H1.size = H.size → (∀ q, q ≠ a → H1[q]? = H[q]?) → (∀ x ∈ locs1, x ∈ locs ∨ x.base = a) → W p l e R s m args below meth c H1 locs1 cells slots Q (F0 m (pc + 3) ls rest)) : W p l e R s m args below meth c H locs cells slots Q (F0 m pc ls (.int n :: .int dp :: .ref a :: .int sp :: .ref a0 :: rest)) := by
  intro T hT X
  obtain ⟨-, k0, hk0, cm0, hkk0⟩ := hA0 n0 (fun j => Value.int (f j))
  obtain ⟨-, k1, hk1, cm1, hkk1⟩ := hA1 n1 (fun j => Value.int (g j))
  obtain ⟨vm', X', step⟩ := X.arraycopy hexec hown hlink hnat hstat hini (src := a0) (dst := a) (cs := arrV c0 n0 (fun j => Value.int (f j))) (cd := arrV c1 n1 (fun j => Value.int (g j))) (srcPos := sp) (destPos := dp) (n := n) (by rw [hT]; exact hc0) (by rw [hT]; exact hc1)
    (fun _ h => by cases h) (fun _ h => by cases h) (fun h => by cases h) (fun h => by cases h) hk0 hk1 hkk0 hkk1 (by simp [refKind]) h1 h2 h3
    (by rw [nn_toInt h1, nn_toInt h3, arrV_size]; omega)
    (by rw [nn_toInt h2, nn_toInt h3, arrV_size]; omega)
    (fun vm₁ _ i hi => by
      have e : (arrV c0 n0 (fun j => Value.int (f j))).slots.getD (sp.toNatClampNeg + i) .null = .int (f (sp.toNatClampNeg + i)) := by
        rw [Array.getD_eq_getD_getElem?, arrV_read _ _ (by omega)]
        rfl
      refine ⟨?_, ?_⟩
      · rw [e]; rfl
      · rw [e]; exact trivial)
    (g := F0 m pc ls (.int n :: .int dp :: .ref a :: .int sp :: .ref a0 :: rest)) rfl (by rw [hml]) (rest := rest) rfl (by rw [hb]; exact hdg) hframes (by show 2 * 0 + _ + _ ≤ _; omega)
  have e1 : copied (arrV c0 n0 (fun j => Value.int (f j))) (arrV c1 n1 (fun j => Value.int (g j))) sp dp n = arrV c1 n1 (fun j => Value.int (va_cpy f g sp.toNatClampNeg dp.toNatClampNeg n.toNatClampNeg j)) := va_copied (fun z => Value.int z) c0 c1 f g h4
  rw [e1] at X' step
  have hl : a < H.size := (Array.getElem?_eq_some_iff.mp hc1).1
  generalize hH : H.setIfInBounds a (arrV c1 n1 (fun j => Value.int (va_cpy f g sp.toNatClampNeg dp.toNatClampNeg n.toNatClampNeg j))) = H1
  obtain ⟨t, a1, b1⟩ := kk H1 _ (by rw [← hH]; simp [Array.getElem?_setIfInBounds, hl]) (by rw [← hH]; simp) (fun q hq => by rw [← hH]; simp [Array.getElem?_setIfInBounds, Ne.symm hq]) (fun x hx => by
      rcases List.mem_append.mp hx with h | h
      · exact Or.inl h
      · obtain ⟨z, -, hz⟩ := List.mem_map.mp h
        exact Or.inr (by rw [← hz])) _ (by rw [← hH, ← hT]; rfl) X'
  exact ⟨t, step t a1, b1⟩
/-- arraycopy, what it does to the heap -/
theorem w_copyP {p : Program} {l : Launch} {e : Env} {R : Room} {s : State} {m : MethodId} {args : Array Value} {below : List Frame} {meth : Method} {c : Code} {H : Heap} {locs : List Loc} {cells slots : Nat} {Q : State → Prop} {cc : ByteArray} {pc : Nat} {ls : Array Slot} {rest : List Value} (hexec : p.tables.exec = Jvm.exec) (hb : c.code = cc) (hml : c.maxLocals = ls.size) {own : String} {index : Nat} (hown : s.vm.findClass own = some m.cls) (hlink : (Cond.methodLink own index arraycopyName).before args s = true) (hnat : (Cond.native arraycopyName).before args s = true) (hstat : (Cond.static arraycopyName).before args s = true) (hini : (Cond.initialized "java/lang/System").before args s = true)
    {a0 a : Nat} {c0 c1 : ClassId} {n0 n1 : Nat} {f g : Nat → Option Nat} (hc0 : H[a0]? = some (arrV c0 n0 (fun j => va_rf (f j)))) (hc1 : H[a]? = some (arrV c1 n1 (fun j => va_rf (g j)))) (hA0 : ArrOfT s c0 (.object "java/lang/Object")) (hA1 : ArrOfT s c1 (.object "java/lang/Object")) (hR1 : va_RA s c1 (.object "java/lang/Object"))
    {sp dp n : Int32} (h1 : ¬ sp < 0) (h2 : ¬ dp < 0) (h3 : ¬ n < 0) (h4 : sp.toNatClampNeg + n.toNatClampNeg ≤ n0) (h5 : dp.toNatClampNeg + n.toNatClampNeg ≤ n1) (hel : ∀ i : Nat, i < n.toNatClampNeg → ∀ y : Nat, f (sp.toNatClampNeg + i) = some y → va_Any "java/lang/Object" s H y)
    (hframes : 1 ≤ R.frames) (hlocals : (rest.map fun v => v.category).sum + (nativeFrameWords "java/lang/System" "arraycopy" 5 + 11) ≤ R.locals) (hdg : decode cc pc = .ok (.invokestatic index, 3))
    (kk : ∀ (H1 : Heap) (locs1 : List Loc), H1[a]? = some (arrV c1 n1 (fun j => va_rf (va_cpy f g sp.toNatClampNeg dp.toNatClampNeg n.toNatClampNeg j))) → H1.size = H.size → (∀ q, q ≠ a → H1[q]? = H[q]?) → (∀ x ∈ locs1, x ∈ locs ∨ x.base = a) → W p l e R s m args below meth c H1 locs1 cells slots Q (F0 m (pc + 3) ls rest)) : W p l e R s m args below meth c H locs cells slots Q (F0 m pc ls (.int n :: .int dp :: .ref a :: .int sp :: .ref a0 :: rest)) := by
  intro T hT X
  obtain ⟨-, k0, hk0, cm0, hkk0⟩ := hA0 n0 (fun j => va_rf (f j))
  obtain ⟨-, k1, hk1, cm1, hkk1⟩ := hA1 n1 (fun j => va_rf (g j))
  obtain ⟨vm', X', step⟩ := X.arraycopy hexec hown hlink hnat hstat hini (src := a0) (dst := a) (cs := arrV c0 n0 (fun j => va_rf (f j))) (cd := arrV c1 n1 (fun j => va_rf (g j))) (srcPos := sp) (destPos := dp) (n := n) (by rw [hT]; exact hc0) (by rw [hT]; exact hc1)
    (fun _ h => by cases h) (fun _ h => by cases h) (fun h => by cases h) (fun h => by cases h) hk0 hk1 hkk0 hkk1 rfl h1 h2 h3
    (by rw [nn_toInt h1, nn_toInt h3, arrV_size]; omega)
    (by rw [nn_toInt h2, nn_toInt h3, arrV_size]; omega)
    (fun vm₁ hal i hi => by
      have e : (arrV c0 n0 (fun j => va_rf (f j))).slots.getD (sp.toNatClampNeg + i) .null = va_rf (f (sp.toNatClampNeg + i)) := by
        rw [Array.getD_eq_getD_getElem?, arrV_read _ _ (by omega)]
        rfl
      rw [e]
      cases hy : f (sp.toNatClampNeg + i) with
      | none => exact ⟨rfl, trivial⟩
      | some y =>
        obtain ⟨cellV, g1, g2, ⟨kC, hkC⟩, hasg⟩ := hel i hi y hy
        obtain ⟨kA, comp, r1, r2, r3, -⟩ := hR1
        cases hk1.symm.trans r1
        cases hkk1.symm.trans r2
        obtain ⟨kE, hkE, -⟩ := Vm.findClass_spec r3
        obtain ⟨kC', hkC', -⟩ := hal.2.2 _ _ hkC
        obtain ⟨kE', hkE', -⟩ := hal.2.2 _ _ hkE
        refine ⟨rfl, cellV, (show T.heap[y]? = some cellV by rw [hT]; exact g1), (fun q h => by rw [h] at g2; cases g2), ⟨kC', hkC'⟩, ?_, ?_⟩
        · exact ⟨kE', hkE'⟩
        · show vm₁.assignable _ _ = true
          rw [hal.assignable]
          exact hasg _ r3)
    (g := F0 m pc ls (.int n :: .int dp :: .ref a :: .int sp :: .ref a0 :: rest)) rfl (by rw [hml]) (rest := rest) rfl (by rw [hb]; exact hdg) hframes (by show 2 * 0 + _ + _ ≤ _; omega)
  have e1 : copied (arrV c0 n0 (fun j => va_rf (f j))) (arrV c1 n1 (fun j => va_rf (g j))) sp dp n = arrV c1 n1 (fun j => va_rf (va_cpy f g sp.toNatClampNeg dp.toNatClampNeg n.toNatClampNeg j)) := va_copied (fun z => va_rf z) c0 c1 f g h4
  rw [e1] at X' step
  have hl : a < H.size := (Array.getElem?_eq_some_iff.mp hc1).1
  generalize hH : H.setIfInBounds a (arrV c1 n1 (fun j => va_rf (va_cpy f g sp.toNatClampNeg dp.toNatClampNeg n.toNatClampNeg j))) = H1
  obtain ⟨t, a1, b1⟩ := kk H1 _ (by rw [← hH]; simp [Array.getElem?_setIfInBounds, hl]) (by rw [← hH]; simp) (fun q hq => by rw [← hH]; simp [Array.getElem?_setIfInBounds, Ne.symm hq]) (fun x hx => by
      rcases List.mem_append.mp hx with h | h
      · exact Or.inl h
      · obtain ⟨z, -, hz⟩ := List.mem_map.mp h
        exact Or.inr (by rw [← hz])) _ (by rw [← hH, ← hT]; rfl) X'
  exact ⟨t, step t a1, b1⟩
def cpI (μ : Mem) (k0 a0 i k1 a1 j n : Nat) : Mem := (mI μ, mL μ, mP μ, fun g b q => if g = k1 ∧ b = a1 then va_cpy (aI μ k0 a0) (aI μ k1 a1) i j n q else aI μ g b q, aL μ, aP μ, mK μ, mN μ, mX μ, mS μ, mT μ)
def cpyI (k0 k1 : Nat) (r0 : Option Nat) (i : Int32) (r1 : Option Nat) (j n : Int32) : M Unit := bn (pArr k0 r0) fun a0 => bn (pArr k1 r1) fun a1 μ => if ¬ i < 0 ∧ ¬ j < 0 ∧ ¬ n < 0 ∧ i.toNatClampNeg + n.toNatClampNeg ≤ mN μ a0 ∧ j.toNatClampNeg + n.toNatClampNeg ≤ mN μ a1 then some ((), cpI μ k0 a0 i.toNatClampNeg k1 a1 j.toNatClampNeg n.toNatClampNeg) else none
theorem ok_cpyI {α : Type} {Γ : Gam} {y : Mth} {d : Nat} {rv : Rv α} {pc : Nat} {lv : List (Nat × Value)} {st : List Value} {F : M α} {r0 r : Option Nat} {i j n : Int32} {kd0 kd idx : Nat} (hk0 : 64 ≤ kd0) (hk : 64 ≤ kd) (hj0 : kd0 % 8 = 0) (hj : kd % 8 = 0) (h76 : kd ≠ 76) (w1 : Cond.methodLink y.1.cls idx arraycopyName ∈ lw_g) (w2 : Cond.native arraycopyName ∈ lw_g) (w3 : Cond.static arraycopyName ∈ lw_g) (w4 : Cond.initialized "java/lang/System" ∈ lw_g) (hdep : 1 ≤ d) (hst : st.length ≤ 10) (hd : decode y.2.1 pc = .ok (.invokestatic idx, 3)) (kk : Ok Γ y d rv (pc + 3) lv st F) : Ok Γ y d rv pc lv (.int n :: .int j :: va_rf r :: .int i :: va_rf r0 :: st) (bn (cpyI kd0 kd r0 i r j n) fun _ => F) := by
  intro μ w μ' h
  obtain ⟨u, μ1, h1, h2⟩ := bn_some h
  obtain ⟨a0, μ2, h3, h4⟩ := bn_some h1
  obtain ⟨a0', rfl, hK0, e⟩ := pArr_some h3
  cases e
  obtain ⟨a, μ3, h5, h6⟩ := bn_some h4
  obtain ⟨a', rfl, hK, e⟩ := pArr_some h5
  cases e
  by_cases hin : ¬ i < 0 ∧ ¬ j < 0 ∧ ¬ n < 0 ∧ i.toNatClampNeg + n.toNatClampNeg ≤ mN μ a0 ∧ j.toNatClampNeg + n.toNatClampNeg ≤ mN μ a
  case neg => simp only [if_neg hin] at h6; cases h6
  simp only [if_pos hin] at h6
  cases h6
  refine ⟨(kk _ w μ' h2).1, ?_⟩
  intro p e s m args below meth c x0 s0 H locs ls hc g1 g2 hS hD hl
  have hts := hc.2.2.2.2.2.1
  have hcell0 := wd_arr hD hk0 hK0
  have hcell := wd_arr hD hk hK
  rw [hj0] at hcell0
  rw [hj] at hcell
  have hA := (hc.2.2.2.2.2.2.2.2.1.1.2 0 _ rfl)
  have hev0 : ev μ a0 = fun q => Value.int (aI μ kd0 a0 q) := by funext q; simp [ev, hK0, hj0]
  have hev : ev μ a = fun q => Value.int (aI μ kd a q) := by funext q; simp [ev, hK, hj]
  rw [hev0] at hcell0
  rw [hev] at hcell
  have hz := cat_sum st
  have hw := acw
  refine w_copyI hc.1 hc.2.1 (by rw [hl.1, hc.2.2.2.1]) hc.2.2.2.2.1 (hts _ w1) (hts _ w2) (hts _ w3) (hts _ w4) hcell0 hcell hA.1 hA.1 hA.2 hin.1 hin.2.1 hin.2.2.1 hin.2.2.2.1 hin.2.2.2.2  hdep (by show _ ≤ 64 * d; omega) hd fun H' locs' e1 e2 e3 e4 => ?_
  have hD' : Wd Γ (cpI μ kd0 a0 i.toNatClampNeg kd a j.toNatClampNeg n.toNatClampNeg) H' := by
    refine wd_aput hD hk hK ?_ e2 e3 rfl rfl rfl rfl rfl (fun b hb => ?_)
    · rw [e1, hj]
      congr 2
      funext q
      have hKx : mK (cpI μ kd0 a0 i.toNatClampNeg kd a j.toNatClampNeg n.toNatClampNeg) a = kd := hK
      have hax : aI (cpI μ kd0 a0 i.toNatClampNeg kd a j.toNatClampNeg n.toNatClampNeg) kd a q = va_cpy (aI μ kd0 a0) (aI μ kd a) i.toNatClampNeg j.toNatClampNeg n.toNatClampNeg q := by
        show (if kd = kd ∧ a = a then _ else _) = _
        rw [if_pos ⟨rfl, rfl⟩]
      unfold ev
      rw [hKx, hax, hj]
      simp
    · funext q
      have hax : ∀ g, aI (cpI μ kd0 a0 i.toNatClampNeg kd a j.toNatClampNeg n.toNatClampNeg) g b q = aI μ g b q := fun g => by
        show (if g = kd ∧ b = a then _ else _) = _
        rw [if_neg (fun z => hb z.2)]
      unfold ev
      rw [hax]
      rfl
  have hS' : va_S (fun q => gB Γ ≤ q) s.heap H' locs' := by
    refine ⟨by rw [e2]; exact hS.1, fun q h1 h2 => ?_, fun x hx => ?_⟩
    · rw [e3 q (fun z => h2 (by rw [z]; exact arr_base hD hk h76 hK))]
      exact hS.2.1 q h1 h2
    · rcases e4 x hx with h | h
      · exact hS.2.2 x h
      · show gB Γ ≤ x.base
        rw [h]
        exact arr_base hD hk h76 hK
  exact (kk _ w μ' h2).2 p e s m args below meth c x0 s0 H' locs' ls hc g1 g2 hS' hD' hl
def cpP (μ : Mem) (k0 a0 i k1 a1 j n : Nat) : Mem := (mI μ, mL μ, mP μ, aI μ, aL μ, fun g b q => if g = k1 ∧ b = a1 then va_cpy (aP μ k0 a0) (aP μ k1 a1) i j n q else aP μ g b q, mK μ, mN μ, mX μ, mS μ, mT μ)
def cpyP (k0 k1 : Nat) (r0 : Option Nat) (i : Int32) (r1 : Option Nat) (j n : Int32) : M Unit := bn (pArr k0 r0) fun a0 => bn (pArr k1 r1) fun a1 μ => if ¬ i < 0 ∧ ¬ j < 0 ∧ ¬ n < 0 ∧ i.toNatClampNeg + n.toNatClampNeg ≤ mN μ a0 ∧ j.toNatClampNeg + n.toNatClampNeg ≤ mN μ a1 ∧ ((List.range n.toNatClampNeg).all fun q => decide (aP μ k0 a0 (i.toNatClampNeg + q) = none ∨ (1 ≤ mK μ ((aP μ k0 a0 (i.toNatClampNeg + q)).getD 0) ∧ mK μ ((aP μ k0 a0 (i.toNatClampNeg + q)).getD 0) ≤ 13))) = true then some ((), cpP μ k0 a0 i.toNatClampNeg k1 a1 j.toNatClampNeg n.toNatClampNeg) else none
theorem ok_cpyP {α : Type} {Γ : Gam} {y : Mth} {d : Nat} {rv : Rv α} {pc : Nat} {lv : List (Nat × Value)} {st : List Value} {F : M α} {r0 r : Option Nat} {i j n : Int32} {kd0 kd idx : Nat} (hk0 : 64 ≤ kd0) (hk : 64 ≤ kd) (hj0 : kd0 % 8 = 4) (hj : kd % 8 = 4) (h76 : kd ≠ 76) (w1 : Cond.methodLink y.1.cls idx arraycopyName ∈ lw_g) (w2 : Cond.native arraycopyName ∈ lw_g) (w3 : Cond.static arraycopyName ∈ lw_g) (w4 : Cond.initialized "java/lang/System" ∈ lw_g) (hdep : 1 ≤ d) (hst : st.length ≤ 10) (hd : decode y.2.1 pc = .ok (.invokestatic idx, 3)) (kk : Ok Γ y d rv (pc + 3) lv st F) : Ok Γ y d rv pc lv (.int n :: .int j :: va_rf r :: .int i :: va_rf r0 :: st) (bn (cpyP kd0 kd r0 i r j n) fun _ => F) := by
  intro μ w μ' h
  obtain ⟨u, μ1, h1, h2⟩ := bn_some h
  obtain ⟨a0, μ2, h3, h4⟩ := bn_some h1
  obtain ⟨a0', rfl, hK0, e⟩ := pArr_some h3
  cases e
  obtain ⟨a, μ3, h5, h6⟩ := bn_some h4
  obtain ⟨a', rfl, hK, e⟩ := pArr_some h5
  cases e
  by_cases hin : ¬ i < 0 ∧ ¬ j < 0 ∧ ¬ n < 0 ∧ i.toNatClampNeg + n.toNatClampNeg ≤ mN μ a0 ∧ j.toNatClampNeg + n.toNatClampNeg ≤ mN μ a ∧ ((List.range n.toNatClampNeg).all fun q => decide (aP μ kd0 a0 (i.toNatClampNeg + q) = none ∨ (1 ≤ mK μ ((aP μ kd0 a0 (i.toNatClampNeg + q)).getD 0) ∧ mK μ ((aP μ kd0 a0 (i.toNatClampNeg + q)).getD 0) ≤ 13))) = true
  case neg => simp only [if_neg hin] at h6; cases h6
  simp only [if_pos hin] at h6
  cases h6
  refine ⟨(kk _ w μ' h2).1, ?_⟩
  intro p e s m args below meth c x0 s0 H locs ls hc g1 g2 hS hD hl
  have hts := hc.2.2.2.2.2.1
  have hcell0 := wd_arr hD hk0 hK0
  have hcell := wd_arr hD hk hK
  rw [hj0] at hcell0
  rw [hj] at hcell
  have hA := (hc.2.2.2.2.2.2.2.2.1.1.2 4 _ rfl)
  have hev0 : ev μ a0 = fun q => va_rf (aP μ kd0 a0 q) := by funext q; simp [ev, hK0, hj0]
  have hev : ev μ a = fun q => va_rf (aP μ kd a q) := by funext q; simp [ev, hK, hj]
  rw [hev0] at hcell0
  rw [hev] at hcell
  have hz := cat_sum st
  have hw := acw
  refine w_copyP hc.1 hc.2.1 (by rw [hl.1, hc.2.2.2.1]) hc.2.2.2.2.1 (hts _ w1) (hts _ w2) (hts _ w3) (hts _ w4) hcell0 hcell hA.1 hA.1 hA.2 hin.1 hin.2.1 hin.2.2.1 hin.2.2.2.1 hin.2.2.2.2.1 (fun q hq z hz => by
    have hq2 := List.all_eq_true.mp hin.2.2.2.2.2 q (List.mem_range.mpr hq)
    rw [hz] at hq2
    have hq3 := of_decide_eq_true hq2
    rcases hq3 with hq3 | hq3
    · cases hq3
    · exact any_obj hc hD hq3.1 hq3.2) hdep (by show _ ≤ 64 * d; omega) hd fun H' locs' e1 e2 e3 e4 => ?_
  have hD' : Wd Γ (cpP μ kd0 a0 i.toNatClampNeg kd a j.toNatClampNeg n.toNatClampNeg) H' := by
    refine wd_aput hD hk hK ?_ e2 e3 rfl rfl rfl rfl rfl (fun b hb => ?_)
    · rw [e1, hj]
      congr 2
      funext q
      have hKx : mK (cpP μ kd0 a0 i.toNatClampNeg kd a j.toNatClampNeg n.toNatClampNeg) a = kd := hK
      have hax : aP (cpP μ kd0 a0 i.toNatClampNeg kd a j.toNatClampNeg n.toNatClampNeg) kd a q = va_cpy (aP μ kd0 a0) (aP μ kd a) i.toNatClampNeg j.toNatClampNeg n.toNatClampNeg q := by
        show (if kd = kd ∧ a = a then _ else _) = _
        rw [if_pos ⟨rfl, rfl⟩]
      unfold ev
      rw [hKx, hax, hj]
      simp
    · funext q
      have hax : ∀ g, aP (cpP μ kd0 a0 i.toNatClampNeg kd a j.toNatClampNeg n.toNatClampNeg) g b q = aP μ g b q := fun g => by
        show (if g = kd ∧ b = a then _ else _) = _
        rw [if_neg (fun z => hb z.2)]
      unfold ev
      rw [hax]
      rfl
  have hS' : va_S (fun q => gB Γ ≤ q) s.heap H' locs' := by
    refine ⟨by rw [e2]; exact hS.1, fun q h1 h2 => ?_, fun x hx => ?_⟩
    · rw [e3 q (fun z => h2 (by rw [z]; exact arr_base hD hk h76 hK))]
      exact hS.2.1 q h1 h2
    · rcases e4 x hx with h | h
      · exact hS.2.2 x h
      · show gB Γ ≤ x.base
        rw [h]
        exact arr_base hD hk h76 hK
  exact (kk _ w μ' h2).2 p e s m args below meth c x0 s0 H' locs' ls hc g1 g2 hS' hD' hl
theorem w_clone {p : Program} {l : Launch} {e : Env} {R : Room} {s : State} {m : MethodId} {args : Array Value} {below : List Frame} {meth : Method} {c : Code} {H : Heap} {locs : List Loc} {cells slots : Nat} {Q : State → Prop} {cc : ByteArray} {pc : Nat} {ls : Array Slot} {rest : List Value} (hexec : p.tables.exec = Jvm.exec) (hb : c.code = cc) (hml : c.maxLocals = ls.size) {own : String} {index : Nat} (hown : s.vm.findClass own = some m.cls)
    (hlink : (Cond.methodLink own index ⟨"[I", "clone", "()Ljava/lang/Object;"⟩).before args s = true) (hsame : (Cond.sameMethod "[I" "java/lang/Object" "clone" "()Ljava/lang/Object;").before args s = true) (hnat : (Cond.native ⟨"java/lang/Object", "clone", "()Ljava/lang/Object;"⟩).before args s = true) (hinst : (Cond.instanceMethod ⟨"java/lang/Object", "clone", "()Ljava/lang/Object;"⟩).before args s = true)
    (hsel : (Cond.selects "[I" ⟨"[I", "clone", "()Ljava/lang/Object;"⟩ ⟨"java/lang/Object", "clone", "()Ljava/lang/Object;"⟩).before args s = true) (hcl : va_Nw (.castable "[I" "java/lang/Cloneable") s) {a : Nat} {cA : ClassId} {n : Nat} {f : Nat → Int32} (hcell : H[a]? = some (arrV cA n (fun j => Value.int (f j)))) (hA : ArrOfT s cA .int) (hnm : s.vm.findClass "[I" = some cA)
    (hframes : 1 ≤ R.frames) (hlocals : (rest.map fun v => v.category).sum + 14 ≤ R.locals) (hcells : cells + 1 ≤ R.cells) (hslots : slots + n ≤ R.slots) (hdg : decode cc pc = .ok (.invokevirtual index, 3))
    (kk : ∀ H1 : Heap, H1[H.size]? = some (arrV cA n (fun j => Value.int (f j))) → H1.size = H.size + 1 → (∀ q, q < H.size → H1[q]? = H[q]?) → W p l e R s m args below meth c H1 locs (cells + 1) (slots + n) Q (F0 m (pc + 3) ls (.ref H.size :: rest))) : W p l e R s m args below meth c H locs cells slots Q (F0 m pc ls (.ref a :: rest)) := by
  have hcellE : ({ cls := (arrV cA n (fun j => Value.int (f j))).cls, slots := (arrV cA n (fun j => Value.int (f j))).slots } : Cell) = arrV cA n (fun j => Value.int (f j)) := rfl
  obtain ⟨c0, t0', f1, f2, f3⟩ := Cond.castable_spec (va_Nw.use (A := args) rfl hcl)
  cases hnm.symm.trans f1
  intro T hT X
  have hcellT : T.heap[a]? = some (arrV cA n (fun j => Value.int (f j))) := by rw [hT]; exact hcell
  obtain ⟨-, kA, hkA, comp, hkind⟩ := State.isArrayOf_alike X.warmed.alike (hA 0 (fun _ => .null))
  obtain ⟨-, kS, hkS, compS, hkindS⟩ := hA 0 (fun _ => .null)
  obtain ⟨vm', X', st⟩ := X.cloneArray hexec hown hlink hsame hnat hinst hsel (a := a) (cell := arrV cA n (fun j => Value.int (f j))) hcellT (fun k h => by cases h) (fun h => by cases h) hnm f2 f3
    (fun i v hv => by
      have hk' : T.vm.classes[cA]? = some kA := hkA
      have hi : i < n := by
        have := (Array.getElem?_eq_some_iff.mp hv).1
        rwa [arrV_size] at this
      rw [arrV_read _ _ hi] at hv
      cases hv
      show T.fitsSlot cA _ i (.int (f i)) = true
      simp [State.fitsSlot, State.slotType?, hk', hkind, fits, arrV])
    (g := F0 m pc ls (.ref a :: rest)) rfl (by rw [hml]) rfl (by rw [hb]; exact hdg) hframes (by show 2 * 0 + _ + 14 ≤ _; omega) hcells (by rw [arrV_size]; exact hslots) (hloader := Vm.clonesLoader_of_array hkS hkindS)
  rw [hcellE, arrV_size] at X'
  generalize hH1 : H.push (arrV cA n (fun j => Value.int (f j))) = H1
  obtain ⟨t, b1, b2⟩ := kk H1 (by rw [← hH1, Array.getElem?_push_size]) (by rw [← hH1, Array.size_push]) (fun q hq => by rw [← hH1, Array.getElem?_push, if_neg (Nat.ne_of_lt hq)])
    ((T.setVm vm').pushCell (arrV cA n (fun j => Value.int (f j)))) (by rw [← hH1, ← hT]; rfl) X'
  refine ⟨t, st t ?_, b2⟩
  rw [hcellE, hT]
  exact b1
/-- a copy of an int array, of another kind -/
def clA (k0 a k1 : Nat) (μ : Mem) : Mem := (mI μ, mL μ, mP μ, fun g b i => if b = mX μ then (if g = k1 then aI μ k0 a i else 0) else aI μ g b i, fun g b i => if b = mX μ then 0 else aL μ g b i, fun g b i => if b = mX μ then none else aP μ g b i, fun b => if b = mX μ then k1 else mK μ b, fun b => if b = mX μ then mN μ a else mN μ b, mX μ + 1, mS μ + mN μ a, mT μ)
def clI (k0 k1 : Nat) (r : Option Nat) : M (Option Nat) := bn (pArr k0 r) fun a μ => some (some (mX μ), clA k0 a k1 μ)
theorem ok_clI {α : Type} {Γ : Gam} {y : Mth} {d : Nat} {rv : Rv α} {pc : Nat} {lv : List (Nat × Value)} {st : List Value} {F : Option Nat → M α} {r : Option Nat} {kd0 kd idx : Nat} (hk0 : 64 ≤ kd0) (hk : 64 ≤ kd) (hj0 : kd0 % 8 = 0) (hj : kd % 8 = 0) (w1 : Cond.methodLink y.1.cls idx ⟨"[I", "clone", "()Ljava/lang/Object;"⟩ ∈ lw_g) (w2 : Cond.sameMethod "[I" "java/lang/Object" "clone" "()Ljava/lang/Object;" ∈ lw_g) (w3 : Cond.native ⟨"java/lang/Object", "clone", "()Ljava/lang/Object;"⟩ ∈ lw_g) (w4 : Cond.instanceMethod ⟨"java/lang/Object", "clone", "()Ljava/lang/Object;"⟩ ∈ lw_g) (w5 : Cond.selects "[I" ⟨"[I", "clone", "()Ljava/lang/Object;"⟩ ⟨"java/lang/Object", "clone", "()Ljava/lang/Object;"⟩ ∈ lw_g) (w6 : Cond.castable "[I" "java/lang/Cloneable" ∈ lw_nn)
    (hdep : 1 ≤ d) (hst : st.length ≤ 10) (hd : decode y.2.1 pc = .ok (.invokevirtual idx, 3)) (kk : ∀ q : Option Nat, Ok Γ y d rv (pc + 3) lv (va_rf q :: st) (F q)) : Ok Γ y d rv pc lv (va_rf r :: st) (bn (clI kd0 kd r) F) := by
  intro μ w μ' h
  obtain ⟨u, μ1, h1, h2⟩ := bn_some h
  obtain ⟨a, μ2, h3, h4⟩ := bn_some h1
  obtain ⟨a', rfl, hK, e⟩ := pArr_some h3
  cases e
  cases h4
  have hm := (kk _ _ w μ' h2).1
  have m1 : mX (clA kd0 a kd μ) = mX μ + 1 := rfl
  have m2 : mS (clA kd0 a kd μ) = mS μ + mN μ a := rfl
  rw [m1, m2] at hm
  refine ⟨⟨by omega, by omega⟩, ?_⟩
  intro p e s m args below meth c x0 s0 H locs ls hc g1 g2 hS hD hl
  have hts := hc.2.2.2.2.2.1
  have hcell := wd_arr hD hk0 hK
  rw [hj0] at hcell
  have hA := (hc.2.2.2.2.2.2.2.2.1.1.2 0 _ rfl)
  have hev : ev μ a = fun q => Value.int (aI μ kd0 a q) := by funext q; simp [ev, hK, hj0]
  rw [hev] at hcell
  have hz := cat_sum st
  have hlt : a < H.size := (hD.2.2 a (by omega)).1.1
  refine w_clone hc.1 hc.2.1 (by rw [hl.1, hc.2.2.2.1]) hc.2.2.2.2.1 (hts _ w1) (hts _ w2) (hts _ w3) (hts _ w4) (hts _ w5) (hc.2.2.2.2.2.2.2.2.1.2.1 _ w6) hcell hA.1 hA.2 hdep (by show _ ≤ 64 * d; omega) (by show _ ≤ mX μ' - x0; omega) (by show _ ≤ mS μ' - s0; omega) hd fun H' e1 e2 e3 => ?_
  rw [hD.1] at e1
  have hax : mX μ ≠ a := by rw [← hD.1]; omega
  have hD' : Wd Γ (clA kd0 a kd μ) H' := by
    refine wd_new hD e2 e3 (Nat.le_trans hc.2.2.2.2.2.2.2.2.2.2.1 hS.1) (Or.inr trivial) (fun b hb => ?_) (fun b hb => ?_) rfl rfl (fun c b j hb => rfl) (fun b hb => ?_) ⟨fun c q hcq hq => ?_, fun h64 => ?_⟩
    · show (if b = mX μ then _ else _) = _
      rw [if_neg hb]
    · show (if b = mX μ then _ else _) = _
      rw [if_neg hb]
    · funext q
      have k1 : mK (clA kd0 a kd μ) b = mK μ b := by show (if b = mX μ then _ else _) = _; rw [if_neg hb]
      have k2 : ∀ g, aI (clA kd0 a kd μ) g b q = aI μ g b q := fun g => by show (if b = mX μ then _ else _) = _; rw [if_neg hb]
      have k3 : ∀ g, aL (clA kd0 a kd μ) g b q = aL μ g b q := fun g => by show (if b = mX μ then _ else _) = _; rw [if_neg hb]
      have k4 : ∀ g, aP (clA kd0 a kd μ) g b q = aP μ g b q := fun g => by show (if b = mX μ then _ else _) = _; rw [if_neg hb]
      unfold ev
      rw [k1, k2, k3, k4]
    · have k1 : mK (clA kd0 a kd μ) (mX μ) = kd := by show (if mX μ = mX μ then _ else _) = _; rw [if_pos rfl]
      rw [k1] at hcq
      have hl2 : c < vcl.length := (List.getElem?_eq_some_iff.mp hq).1
      have h14 : vcl.length = 14 := rfl
      omega
    · have k1 : mK (clA kd0 a kd μ) (mX μ) = kd := by show (if mX μ = mX μ then _ else _) = _; rw [if_pos rfl]
      have k2 : mN (clA kd0 a kd μ) (mX μ) = mN μ a := by show (if mX μ = mX μ then _ else _) = _; rw [if_pos rfl]
      have k3 : ∀ q, aI (clA kd0 a kd μ) kd (mX μ) q = aI μ kd0 a q := fun q => by show (if mX μ = mX μ then (if kd = kd then _ else _) else _) = _; rw [if_pos rfl, if_pos rfl]
      rw [e1, k1, k2, hj]
      congr 2
      funext q
      unfold ev
      rw [k1, k3, hj]
      simp
  have hW := (kk _ _ w μ' h2).2 p e s m args below meth c x0 s0 H' locs ls hc (by rw [m1]; omega) (by rw [m2]; omega) (vs_grow hS e2 e3) hD' hl
  rw [m1, m2, show mX μ + 1 - x0 = mX μ - x0 + 1 by omega, show mS μ + mN μ a - s0 = mS μ - s0 + mN μ a by omega] at hW
  rw [hD.1]
  exact hW
theorem ok_cstA {α : Type} {Γ : Gam} {y : Mth} {d : Nat} {rv : Rv α} {pc : Nat} {lv : List (Nat × Value)} {st : List Value} {F : M α} {r : Option Nat} {kd idx : Nat} (hk : 64 ≤ kd) (hj : kd % 8 = 0) (w1 : Cond.classLink y.1.cls idx "[I" ∈ lw_g) (hd : decode y.2.1 pc = .ok (.checkcast idx, 3)) (kk : Ok Γ y d rv (pc + 3) lv (va_rf r :: st) F) : Ok Γ y d rv pc lv (va_rf r :: st) (bn (pArr kd r) fun _ => F) := by
  intro μ w μ' h
  obtain ⟨a, μ1, h1, h2⟩ := bn_some h
  obtain ⟨a', rfl, hK, e⟩ := pArr_some h1
  cases e
  refine ⟨(kk μ w μ' h2).1, ?_⟩
  intro p e s m args below meth c x0 s0 H locs ls hc g1 g2 hS hD hl
  have hcell := wd_arr hD hk hK
  rw [hj] at hcell
  have hev : ev μ a = fun q => Value.int (aI μ kd a q) := by funext q; simp [ev, hK, hj]
  rw [hev] at hcell
  have hA := (hc.2.2.2.2.2.2.2.2.1.1.2 0 _ rfl)
  have hP : va_P (gD Γ) vcl [(a, .inl (gA Γ 0, mN μ a, .inl (aI μ kd a)))] H := fun k q hq => by
    have hz : k < 1 := (List.getElem?_eq_some_iff.mp hq).1
    rw [show k = 0 by omega] at hq
    cases hq
    exact hcell
  exact va_castA hc.1 hc.2.1 hc.2.2.2.2.1 (hc.2.2.2.2.2.1 _ w1) hP 0 rfl hA.2 hd ((kk μ w μ' h2).2 p e s m args below meth c x0 s0 H locs ls hc g1 g2 hS hD hl)
