/-- an array of kind k -/
theorem wd_arr {Γ : Gam} {μ : Mem} {H : Heap} {a k : Nat} (hD : Wd Γ μ H) (hk : 64 ≤ k) (hK : mK μ a = k) : H[a]? = some (arrV (gA Γ (k % 8)) (mN μ a) (ev μ a)) := by
  have h := (hD.2.2 a (by omega)).1.2.2 (by omega)
  rw [hK] at h
  exact h
theorem tys_at {f : Nat → ClassId} {j : Nat} {ty : FieldType} (h : (tysA f)[j]? = some (f j, ty)) {Γ : Gam} (hf : f = gA Γ) {s : State} (hK : va_K (gD Γ) vcl (tysA (gA Γ)) s) : ArrOfT s (gA Γ j) ty ∧ va_RA s (gA Γ j) ty := by
  subst hf
  exact hK.2 j _ h
/-- an array is written: the world behind it -/
theorem wd_aput {Γ : Gam} {μ μ' : Mem} {H H' : Heap} {a k : Nat} (hD : Wd Γ μ H) (hk : 64 ≤ k) (hK : mK μ a = k)
    (e1 : H'[a]? = some (arrV (gA Γ (k % 8)) (mN μ a) (ev μ' a))) (e2 : H'.size = H.size) (e3 : ∀ q, q ≠ a → H'[q]? = H[q]?)
    (m1 : mK μ' = mK μ) (m2 : mN μ' = mN μ) (m3 : mX μ' = mX μ) (m5 : mT μ' = mT μ) (hf : fv μ' = fv μ) (he : ∀ b, b ≠ a → ev μ' b = ev μ b) : Wd Γ μ' H' := by
  refine ⟨by rw [e2, m3]; exact hD.1, m5.trans hD.2.1, fun b hb => ?_⟩
  rw [m1] at hb
  obtain ⟨⟨hlt, hat⟩, hbase⟩ := hD.2.2 b hb
  refine ⟨⟨by rw [e2]; exact hlt, ?_⟩, by rw [m1]; exact hbase⟩
  by_cases hba : b = a
  · subst hba
    refine ⟨fun c q hc hq => ?_, fun h => ?_⟩
    · rw [m1, hK] at hc
      have hl : c < vcl.length := (List.getElem?_eq_some_iff.mp hq).1
      have h14 : vcl.length = 14 := rfl
      omega
    · rw [e1, m1, m2, hK]
  · refine ⟨fun c q hc hq => ?_, fun h => ?_⟩
    · rw [m1] at hc
      rw [hf]
      exact (hat.1 c q hc hq).kept (e3 b hba)
    · rw [e3 b hba, m1, m2, he b hba]
      rw [m1] at h
      exact hat.2 h
theorem up3_ne {α : Type} {m : Nat → Nat → Nat → α} {f a i g b j : Nat} {v : α} (h : b ≠ a ∨ j ≠ i) : up3 m f a i v g b j = m g b j := by
  unfold up3
  rw [if_neg]
  rintro ⟨-, rfl, rfl⟩
  rcases h with h | h <;> exact h rfl
theorem up3_eq {α : Type} {m : Nat → Nat → Nat → α} {f a i : Nat} {v : α} : up3 m f a i v f a i = v := by
  unfold up3
  rw [if_pos ⟨rfl, rfl, rfl⟩]
theorem arr_base {Γ : Gam} {μ : Mem} {H : Heap} {a k : Nat} (hD : Wd Γ μ H) (hk : 64 ≤ k) (h76 : k ≠ 76) (hK : mK μ a = k) : gB Γ ≤ a := (hD.2.2 a (by omega)).2 (by omega)
theorem ok_len {α : Type} {Γ : Gam} {y : Mth} {d : Nat} {rv : Rv α} {pc : Nat} {lv : List (Nat × Value)} {st : List Value} {F : Int32 → M α} {r : Option Nat} (hd : decode y.2.1 pc = .ok (.arraylength, 1)) (kk : ∀ x : Int32, Ok Γ y d rv (pc + 1) lv (.int x :: st) (F x)) : Ok Γ y d rv pc lv (va_rf r :: st) (bn (len r) F) := by
  intro μ w μ' h
  obtain ⟨u, μ1, h1, h2⟩ := bn_some h
  unfold len at h1
  by_cases h0 : r = mT μ 0
  · rw [if_pos h0] at h1
    cases h1
    refine ⟨(kk _ μ w μ' h2).1, ?_⟩
    intro p e s m args below meth c x0 s0 H locs ls hc g1 g2 hS hD hl
    obtain ⟨t, e1, hT⟩ := hc.2.2.2.2.2.2.2.2.1.2.2.1.2
    rw [h0, hD.2.1, e1]
    exact va_tlen hc.1 hc.2.1 hT hS rfl hd ((kk _ μ w μ' h2).2 p e s m args below meth c x0 s0 H locs ls hc g1 g2 hS hD hl)
  rw [if_neg h0] at h1
  cases r with
  | none => cases h1
  | some a =>
    simp only at h1
    by_cases hk : 64 ≤ mK μ a
    case neg => rw [if_neg hk] at h1; cases h1
    rw [if_pos hk] at h1
    cases h1
    refine ⟨(kk _ μ w μ' h2).1, ?_⟩
    intro p e s m args below meth c x0 s0 H locs ls hc g1 g2 hS hD hl
    have hb0 := (hD.2.2 a (by omega)).1.2.2 hk
    have hty : ∃ ty, ArrOfT s (gA Γ (mK μ a % 8)) ty := by
      have hK := hc.2.2.2.2.2.2.2.2.1.1.2
      have h8 : mK μ a % 8 < 8 := Nat.mod_lt _ (by decide)
      rcases (show mK μ a % 8 = 0 ∨ mK μ a % 8 = 1 ∨ mK μ a % 8 = 2 ∨ mK μ a % 8 = 3 ∨ mK μ a % 8 = 4 ∨ mK μ a % 8 = 5 ∨ mK μ a % 8 = 6 ∨ mK μ a % 8 = 7 by omega) with e | e | e | e | e | e | e | e <;> rw [e]
      · exact ⟨_, (hK 0 _ rfl).1⟩
      · exact ⟨_, (hK 1 _ rfl).1⟩
      · exact ⟨_, (hK 2 _ rfl).1⟩
      · exact ⟨_, (hK 3 _ rfl).1⟩
      · exact ⟨_, (hK 4 _ rfl).1⟩
      · exact ⟨_, (hK 5 _ rfl).1⟩
      · exact ⟨_, (hK 6 _ rfl).1⟩
      · exact ⟨_, (hK 7 _ rfl).1⟩
    obtain ⟨ty, hty⟩ := hty
    exact W.alen hc.1 hc.2.1 hb0 (hty _ _) (by rw [arrV_size]) rfl rfl hd ((kk _ μ w μ' h2).2 p e s m args below meth c x0 s0 H locs ls hc g1 g2 hS hD hl)
theorem ok_lI {α : Type} {Γ : Gam} {y : Mth} {d : Nat} {rv : Rv α} {pc : Nat} {lv : List (Nat × Value)} {st : List Value} {F : Int32 → M α} {r : Option Nat} {i : Int32} {kd : Nat} (hk : 64 ≤ kd) (hj : kd % 8 = 0) (hd : decode y.2.1 pc = .ok (.iaload, 1)) (kk : ∀ x : Int32, Ok Γ y d rv (pc + 1) lv (.int x :: st) (F x)) : Ok Γ y d rv pc lv (.int i :: va_rf r :: st) (bn (lI kd r i) F) := by
  intro μ w μ' h
  obtain ⟨u, μ1, h1, h2⟩ := bn_some h
  obtain ⟨a, μ2, h3, h4⟩ := bn_some h1
  obtain ⟨a', rfl, hK, e⟩ := pArr_some h3
  cases e
  by_cases hin : ¬ (i < 0 ∨ mN μ a ≤ i.toNatClampNeg)
  case neg => simp only [if_neg hin] at h4; cases h4
  simp only [if_pos hin] at h4
  cases h4
  refine ⟨(kk _ μ w μ' h2).1, ?_⟩
  intro p e s m args below meth c x0 s0 H locs ls hc g1 g2 hS hD hl
  have hcell := wd_arr hD hk hK
  rw [hj] at hcell
  have hA := (hc.2.2.2.2.2.2.2.2.1.1.2 0 _ rfl).1
  have hev : ev μ a i.toNatClampNeg = .int (aI μ kd a i.toNatClampNeg) := by simp [ev, hK, hj]
  refine W.iald (v := .int (aI μ kd a i.toNatClampNeg)) hc.1 hc.2.1 hcell (hA _ _)  (fun q => by cases q) (by rw [arrV_size]; exact hin) (by rw [arrV_read _ _ (Nat.not_le.mp fun q => hin (Or.inr q)), hev]) rfl rfl hd ((kk _ μ w μ' h2).2 p e s m args below meth c x0 s0 H locs ls hc g1 g2 hS hD hl)
theorem ok_lZ {α : Type} {Γ : Gam} {y : Mth} {d : Nat} {rv : Rv α} {pc : Nat} {lv : List (Nat × Value)} {st : List Value} {F : Int32 → M α} {r : Option Nat} {i : Int32} {kd : Nat} (hk : 64 ≤ kd) (hj : kd % 8 = 2) (hd : decode y.2.1 pc = .ok (.baload, 1)) (kk : ∀ x : Int32, Ok Γ y d rv (pc + 1) lv (.int x :: st) (F x)) : Ok Γ y d rv pc lv (.int i :: va_rf r :: st) (bn (lI kd r i) F) := by
  intro μ w μ' h
  obtain ⟨u, μ1, h1, h2⟩ := bn_some h
  obtain ⟨a, μ2, h3, h4⟩ := bn_some h1
  obtain ⟨a', rfl, hK, e⟩ := pArr_some h3
  cases e
  by_cases hin : ¬ (i < 0 ∨ mN μ a ≤ i.toNatClampNeg)
  case neg => simp only [if_neg hin] at h4; cases h4
  simp only [if_pos hin] at h4
  cases h4
  refine ⟨(kk _ μ w μ' h2).1, ?_⟩
  intro p e s m args below meth c x0 s0 H locs ls hc g1 g2 hS hD hl
  have hcell := wd_arr hD hk hK
  rw [hj] at hcell
  have hA := (hc.2.2.2.2.2.2.2.2.1.1.2 2 _ rfl).1
  have hev : ev μ a i.toNatClampNeg = .int (aI μ kd a i.toNatClampNeg) := by simp [ev, hK, hj]
  refine W.zald (v := .int (aI μ kd a i.toNatClampNeg)) hc.1 hc.2.1 hcell (hA _ _)  (fun q => by cases q) (by rw [arrV_size]; exact hin) (by rw [arrV_read _ _ (Nat.not_le.mp fun q => hin (Or.inr q)), hev]) rfl rfl hd ((kk _ μ w μ' h2).2 p e s m args below meth c x0 s0 H locs ls hc g1 g2 hS hD hl)
theorem ok_lC {α : Type} {Γ : Gam} {y : Mth} {d : Nat} {rv : Rv α} {pc : Nat} {lv : List (Nat × Value)} {st : List Value} {F : Int32 → M α} {r : Option Nat} {i : Int32} {kd : Nat} (hk : 64 ≤ kd) (hj : kd % 8 = 3) (hd : decode y.2.1 pc = .ok (.caload, 1)) (kk : ∀ x : Int32, Ok Γ y d rv (pc + 1) lv (.int x :: st) (F x)) : Ok Γ y d rv pc lv (.int i :: va_rf r :: st) (bn (lI kd r i) F) := by
  intro μ w μ' h
  obtain ⟨u, μ1, h1, h2⟩ := bn_some h
  obtain ⟨a, μ2, h3, h4⟩ := bn_some h1
  obtain ⟨a', rfl, hK, e⟩ := pArr_some h3
  cases e
  by_cases hin : ¬ (i < 0 ∨ mN μ a ≤ i.toNatClampNeg)
  case neg => simp only [if_neg hin] at h4; cases h4
  simp only [if_pos hin] at h4
  cases h4
  refine ⟨(kk _ μ w μ' h2).1, ?_⟩
  intro p e s m args below meth c x0 s0 H locs ls hc g1 g2 hS hD hl
  have hcell := wd_arr hD hk hK
  rw [hj] at hcell
  have hA := (hc.2.2.2.2.2.2.2.2.1.1.2 3 _ rfl).1
  have hev : ev μ a i.toNatClampNeg = .int (aI μ kd a i.toNatClampNeg) := by simp [ev, hK, hj]
  refine W.cald (v := .int (aI μ kd a i.toNatClampNeg)) hc.1 hc.2.1 hcell (hA _ _)  (fun q => by cases q) (by rw [arrV_size]; exact hin) (by rw [arrV_read _ _ (Nat.not_le.mp fun q => hin (Or.inr q)), hev]) rfl rfl hd ((kk _ μ w μ' h2).2 p e s m args below meth c x0 s0 H locs ls hc g1 g2 hS hD hl)
theorem ok_lL {α : Type} {Γ : Gam} {y : Mth} {d : Nat} {rv : Rv α} {pc : Nat} {lv : List (Nat × Value)} {st : List Value} {F : Int64 → M α} {r : Option Nat} {i : Int32} {kd : Nat} (hk : 64 ≤ kd) (hj : kd % 8 = 1) (hd : decode y.2.1 pc = .ok (.laload, 1)) (kk : ∀ x : Int64, Ok Γ y d rv (pc + 1) lv (.long x :: st) (F x)) : Ok Γ y d rv pc lv (.int i :: va_rf r :: st) (bn (lL kd r i) F) := by
  intro μ w μ' h
  obtain ⟨u, μ1, h1, h2⟩ := bn_some h
  obtain ⟨a, μ2, h3, h4⟩ := bn_some h1
  obtain ⟨a', rfl, hK, e⟩ := pArr_some h3
  cases e
  by_cases hin : ¬ (i < 0 ∨ mN μ a ≤ i.toNatClampNeg)
  case neg => simp only [if_neg hin] at h4; cases h4
  simp only [if_pos hin] at h4
  cases h4
  refine ⟨(kk _ μ w μ' h2).1, ?_⟩
  intro p e s m args below meth c x0 s0 H locs ls hc g1 g2 hS hD hl
  have hcell := wd_arr hD hk hK
  rw [hj] at hcell
  have hA := (hc.2.2.2.2.2.2.2.2.1.1.2 1 _ rfl).1
  have hev : ev μ a i.toNatClampNeg = .long (aL μ kd a i.toNatClampNeg) := by simp [ev, hK, hj]
  refine W.lald (v := .long (aL μ kd a i.toNatClampNeg)) hc.1 hc.2.1 hcell (hA _ _)  (fun q => by cases q) (by rw [arrV_size]; exact hin) (by rw [arrV_read _ _ (Nat.not_le.mp fun q => hin (Or.inr q)), hev]) rfl rfl hd ((kk _ μ w μ' h2).2 p e s m args below meth c x0 s0 H locs ls hc g1 g2 hS hD hl)
theorem ok_lP4 {α : Type} {Γ : Gam} {y : Mth} {d : Nat} {rv : Rv α} {pc : Nat} {lv : List (Nat × Value)} {st : List Value} {F : Option Nat → M α} {r : Option Nat} {i : Int32} {kd : Nat} (hk : 64 ≤ kd) (hj : kd % 8 = 4) (hd : decode y.2.1 pc = .ok (.aaload, 1)) (kk : ∀ x : Option Nat, Ok Γ y d rv (pc + 1) lv (va_rf x :: st) (F x)) : Ok Γ y d rv pc lv (.int i :: va_rf r :: st) (bn (lP kd r i) F) := by
  intro μ w μ' h
  obtain ⟨u, μ1, h1, h2⟩ := bn_some h
  obtain ⟨a, μ2, h3, h4⟩ := bn_some h1
  obtain ⟨a', rfl, hK, e⟩ := pArr_some h3
  cases e
  by_cases hin : ¬ (i < 0 ∨ mN μ a ≤ i.toNatClampNeg)
  case neg => simp only [if_neg hin] at h4; cases h4
  simp only [if_pos hin] at h4
  cases h4
  refine ⟨(kk _ μ w μ' h2).1, ?_⟩
  intro p e s m args below meth c x0 s0 H locs ls hc g1 g2 hS hD hl
  have hcell := wd_arr hD hk hK
  rw [hj] at hcell
  have hA := (hc.2.2.2.2.2.2.2.2.1.1.2 4 _ rfl).1
  have hev : ev μ a i.toNatClampNeg = va_rf (aP μ kd a i.toNatClampNeg) := by simp [ev, hK, hj]
  refine W.aald (v := va_rf (aP μ kd a i.toNatClampNeg)) hc.1 hc.2.1 hcell (hA _ _) rfl (fun q => by cases q) (by rw [arrV_size]; exact hin) (by rw [arrV_read _ _ (Nat.not_le.mp fun q => hin (Or.inr q)), hev]) rfl rfl hd ((kk _ μ w μ' h2).2 p e s m args below meth c x0 s0 H locs ls hc g1 g2 hS hD hl)
theorem ok_lP5 {α : Type} {Γ : Gam} {y : Mth} {d : Nat} {rv : Rv α} {pc : Nat} {lv : List (Nat × Value)} {st : List Value} {F : Option Nat → M α} {r : Option Nat} {i : Int32} {kd : Nat} (hk : 64 ≤ kd) (hj : kd % 8 = 5) (hd : decode y.2.1 pc = .ok (.aaload, 1)) (kk : ∀ x : Option Nat, Ok Γ y d rv (pc + 1) lv (va_rf x :: st) (F x)) : Ok Γ y d rv pc lv (.int i :: va_rf r :: st) (bn (lP kd r i) F) := by
  intro μ w μ' h
  obtain ⟨u, μ1, h1, h2⟩ := bn_some h
  obtain ⟨a, μ2, h3, h4⟩ := bn_some h1
  obtain ⟨a', rfl, hK, e⟩ := pArr_some h3
  cases e
  by_cases hin : ¬ (i < 0 ∨ mN μ a ≤ i.toNatClampNeg)
  case neg => simp only [if_neg hin] at h4; cases h4
  simp only [if_pos hin] at h4
  cases h4
  refine ⟨(kk _ μ w μ' h2).1, ?_⟩
  intro p e s m args below meth c x0 s0 H locs ls hc g1 g2 hS hD hl
  have hcell := wd_arr hD hk hK
  rw [hj] at hcell
  have hA := (hc.2.2.2.2.2.2.2.2.1.1.2 5 _ rfl).1
  have hev : ev μ a i.toNatClampNeg = va_rf (aP μ kd a i.toNatClampNeg) := by simp [ev, hK, hj]
  refine W.aald (v := va_rf (aP μ kd a i.toNatClampNeg)) hc.1 hc.2.1 hcell (hA _ _) rfl (fun q => by cases q) (by rw [arrV_size]; exact hin) (by rw [arrV_read _ _ (Nat.not_le.mp fun q => hin (Or.inr q)), hev]) rfl rfl hd ((kk _ μ w μ' h2).2 p e s m args below meth c x0 s0 H locs ls hc g1 g2 hS hD hl)
theorem ok_lP6 {α : Type} {Γ : Gam} {y : Mth} {d : Nat} {rv : Rv α} {pc : Nat} {lv : List (Nat × Value)} {st : List Value} {F : Option Nat → M α} {r : Option Nat} {i : Int32} {kd : Nat} (hk : 64 ≤ kd) (hj : kd % 8 = 6) (hd : decode y.2.1 pc = .ok (.aaload, 1)) (kk : ∀ x : Option Nat, Ok Γ y d rv (pc + 1) lv (va_rf x :: st) (F x)) : Ok Γ y d rv pc lv (.int i :: va_rf r :: st) (bn (lP kd r i) F) := by
  intro μ w μ' h
  obtain ⟨u, μ1, h1, h2⟩ := bn_some h
  obtain ⟨a, μ2, h3, h4⟩ := bn_some h1
  obtain ⟨a', rfl, hK, e⟩ := pArr_some h3
  cases e
  by_cases hin : ¬ (i < 0 ∨ mN μ a ≤ i.toNatClampNeg)
  case neg => simp only [if_neg hin] at h4; cases h4
  simp only [if_pos hin] at h4
  cases h4
  refine ⟨(kk _ μ w μ' h2).1, ?_⟩
  intro p e s m args below meth c x0 s0 H locs ls hc g1 g2 hS hD hl
  have hcell := wd_arr hD hk hK
  rw [hj] at hcell
  have hA := (hc.2.2.2.2.2.2.2.2.1.1.2 6 _ rfl).1
  have hev : ev μ a i.toNatClampNeg = va_rf (aP μ kd a i.toNatClampNeg) := by simp [ev, hK, hj]
  refine W.aald (v := va_rf (aP μ kd a i.toNatClampNeg)) hc.1 hc.2.1 hcell (hA _ _) rfl (fun q => by cases q) (by rw [arrV_size]; exact hin) (by rw [arrV_read _ _ (Nat.not_le.mp fun q => hin (Or.inr q)), hev]) rfl rfl hd ((kk _ μ w μ' h2).2 p e s m args below meth c x0 s0 H locs ls hc g1 g2 hS hD hl)
theorem ok_stI {α : Type} {Γ : Gam} {y : Mth} {d : Nat} {rv : Rv α} {pc : Nat} {lv : List (Nat × Value)} {st : List Value} {F : M α} {r : Option Nat} {i : Int32} {x : Int32} {kd : Nat} (hk : 64 ≤ kd) (hj : kd % 8 = 0) (hd : decode y.2.1 pc = .ok (.iastore, 1)) (kk : Ok Γ y d rv (pc + 1) lv st F) : Ok Γ y d rv pc lv (.int x :: .int i :: va_rf r :: st) (bn (stI kd r i x) fun _ => F) := by
  intro μ w μ' h
  obtain ⟨u, μ1, h1, h2⟩ := bn_some h
  obtain ⟨a, μ2, h3, h4⟩ := bn_some h1
  obtain ⟨a', rfl, hK, e⟩ := pArr_some h3
  cases e
  by_cases hin : ¬ (i < 0 ∨ mN μ a ≤ i.toNatClampNeg)
  case neg => simp only [if_neg hin] at h4; cases h4
  simp only [if_pos hin] at h4
  cases h4
  refine ⟨(kk _ w μ' h2).1, ?_⟩
  intro p e s m args below meth c x0 s0 H locs ls hc g1 g2 hS hD hl
  have hcell := wd_arr hD hk hK
  rw [hj] at hcell
  have hA := (hc.2.2.2.2.2.2.2.2.1.1.2 0 _ rfl).1
  refine W.iast hc.1 hc.2.1 hcell (hA _ _) (fun q => by cases q) (by rw [arrV_size]; exact hin) rfl rfl hd fun H' e1 e2 e3 => ?_
  have hD' : Wd Γ (tI μ kd a i.toNatClampNeg x) H' := by
    refine wd_aput hD hk hK ?_ e2 e3 rfl rfl rfl rfl rfl (fun b hb => ?_)
    · rw [e1, arrV_store, hj]
      congr 2
      funext q
      by_cases hq : q = i.toNatClampNeg
      · subst hq
        simp [updV, ev, hK, hj, mK_tI, aI_tI, aL_tI, aP_tI, up3_eq]
      · have hz : ∀ {β : Type} (m : Nat → Nat → Nat → β) (v : β), up3 m kd a i.toNatClampNeg v kd a q = m kd a q := fun m v => up3_ne (Or.inr hq)
        simp [updV, hq, ev, hK, hj, mK_tI, aI_tI, aL_tI, aP_tI, hz]
    · funext q
      have hz : ∀ {β : Type} (m : Nat → Nat → Nat → β) (v : β) (g : Nat), up3 m kd a i.toNatClampNeg v g b q = m g b q := fun m v g => up3_ne (Or.inl hb)
      simp only [ev, mK_tI, aI_tI, aL_tI, aP_tI, hz]
  exact (kk _ w μ' h2).2 p e s m args below meth c x0 s0 H' _ ls hc g1 g2 (hS.put e2 e3 (arr_base hD hk (by omega) hK)) hD' hl
theorem ok_stZ {α : Type} {Γ : Gam} {y : Mth} {d : Nat} {rv : Rv α} {pc : Nat} {lv : List (Nat × Value)} {st : List Value} {F : M α} {r : Option Nat} {i : Int32} {x : Int32} {kd : Nat} (hk : 64 ≤ kd) (hj : kd % 8 = 2) (hd : decode y.2.1 pc = .ok (.bastore, 1)) (kk : Ok Γ y d rv (pc + 1) lv st F) : Ok Γ y d rv pc lv (.int x :: .int i :: va_rf r :: st) (bn (stZ kd r i x) fun _ => F) := by
  intro μ w μ' h
  obtain ⟨u, μ1, h1, h2⟩ := bn_some h
  obtain ⟨a, μ2, h3, h4⟩ := bn_some h1
  obtain ⟨a', rfl, hK, e⟩ := pArr_some h3
  cases e
  by_cases hin : ¬ (i < 0 ∨ mN μ a ≤ i.toNatClampNeg) ∧ vp_nar .boolean x = x
  case neg => simp only [if_neg hin] at h4; cases h4
  simp only [if_pos hin] at h4
  cases h4
  refine ⟨(kk _ w μ' h2).1, ?_⟩
  intro p e s m args below meth c x0 s0 H locs ls hc g1 g2 hS hD hl
  have hcell := wd_arr hD hk hK
  rw [hj] at hcell
  have hA := (hc.2.2.2.2.2.2.2.2.1.1.2 2 _ rfl).1
  refine W.zast hc.1 hc.2.1 hcell (hA _ _) (fun q => by cases q) (by rw [arrV_size]; exact hin.1) rfl rfl hd fun H' e1 e2 e3 => ?_
  have hD' : Wd Γ (tI μ kd a i.toNatClampNeg x) H' := by
    rw [show narrow .boolean (.int x) = .int x from by have z := hin.2; unfold vp_nar at z; simp only [narrow] at z ⊢; rw [z]] at e1
    refine wd_aput hD hk hK ?_ e2 e3 rfl rfl rfl rfl rfl (fun b hb => ?_)
    · rw [e1, arrV_store, hj]
      congr 2
      funext q
      by_cases hq : q = i.toNatClampNeg
      · subst hq
        simp [updV, ev, hK, hj, mK_tI, aI_tI, aL_tI, aP_tI, up3_eq]
      · have hz : ∀ {β : Type} (m : Nat → Nat → Nat → β) (v : β), up3 m kd a i.toNatClampNeg v kd a q = m kd a q := fun m v => up3_ne (Or.inr hq)
        simp [updV, hq, ev, hK, hj, mK_tI, aI_tI, aL_tI, aP_tI, hz]
    · funext q
      have hz : ∀ {β : Type} (m : Nat → Nat → Nat → β) (v : β) (g : Nat), up3 m kd a i.toNatClampNeg v g b q = m g b q := fun m v g => up3_ne (Or.inl hb)
      simp only [ev, mK_tI, aI_tI, aL_tI, aP_tI, hz]
  exact (kk _ w μ' h2).2 p e s m args below meth c x0 s0 H' _ ls hc g1 g2 (hS.put e2 e3 (arr_base hD hk (by omega) hK)) hD' hl
theorem ok_stC {α : Type} {Γ : Gam} {y : Mth} {d : Nat} {rv : Rv α} {pc : Nat} {lv : List (Nat × Value)} {st : List Value} {F : M α} {r : Option Nat} {i : Int32} {x : Int32} {kd : Nat} (hk : 64 ≤ kd) (hj : kd % 8 = 3) (hd : decode y.2.1 pc = .ok (.castore, 1)) (kk : Ok Γ y d rv (pc + 1) lv st F) : Ok Γ y d rv pc lv (.int x :: .int i :: va_rf r :: st) (bn (stC kd r i x) fun _ => F) := by
  intro μ w μ' h
  obtain ⟨u, μ1, h1, h2⟩ := bn_some h
  obtain ⟨a, μ2, h3, h4⟩ := bn_some h1
  obtain ⟨a', rfl, hK, e⟩ := pArr_some h3
  cases e
  by_cases hin : ¬ (i < 0 ∨ mN μ a ≤ i.toNatClampNeg) ∧ vp_nar .char x = x
  case neg => simp only [if_neg hin] at h4; cases h4
  simp only [if_pos hin] at h4
  cases h4
  refine ⟨(kk _ w μ' h2).1, ?_⟩
  intro p e s m args below meth c x0 s0 H locs ls hc g1 g2 hS hD hl
  have hcell := wd_arr hD hk hK
  rw [hj] at hcell
  have hA := (hc.2.2.2.2.2.2.2.2.1.1.2 3 _ rfl).1
  refine W.cast hc.1 hc.2.1 hcell (hA _ _) (fun q => by cases q) (by rw [arrV_size]; exact hin.1) rfl rfl hd fun H' e1 e2 e3 => ?_
  have hD' : Wd Γ (tI μ kd a i.toNatClampNeg x) H' := by
    rw [show narrow .char (.int x) = .int x from by have z := hin.2; unfold vp_nar at z; simp only [narrow] at z ⊢; rw [z]] at e1
    refine wd_aput hD hk hK ?_ e2 e3 rfl rfl rfl rfl rfl (fun b hb => ?_)
    · rw [e1, arrV_store, hj]
      congr 2
      funext q
      by_cases hq : q = i.toNatClampNeg
      · subst hq
        simp [updV, ev, hK, hj, mK_tI, aI_tI, aL_tI, aP_tI, up3_eq]
      · have hz : ∀ {β : Type} (m : Nat → Nat → Nat → β) (v : β), up3 m kd a i.toNatClampNeg v kd a q = m kd a q := fun m v => up3_ne (Or.inr hq)
        simp [updV, hq, ev, hK, hj, mK_tI, aI_tI, aL_tI, aP_tI, hz]
    · funext q
      have hz : ∀ {β : Type} (m : Nat → Nat → Nat → β) (v : β) (g : Nat), up3 m kd a i.toNatClampNeg v g b q = m g b q := fun m v g => up3_ne (Or.inl hb)
      simp only [ev, mK_tI, aI_tI, aL_tI, aP_tI, hz]
  exact (kk _ w μ' h2).2 p e s m args below meth c x0 s0 H' _ ls hc g1 g2 (hS.put e2 e3 (arr_base hD hk (by omega) hK)) hD' hl
theorem ok_stL {α : Type} {Γ : Gam} {y : Mth} {d : Nat} {rv : Rv α} {pc : Nat} {lv : List (Nat × Value)} {st : List Value} {F : M α} {r : Option Nat} {i : Int32} {x : Int64} {kd : Nat} (hk : 64 ≤ kd) (hj : kd % 8 = 1) (hd : decode y.2.1 pc = .ok (.lastore, 1)) (kk : Ok Γ y d rv (pc + 1) lv st F) : Ok Γ y d rv pc lv (.long x :: .int i :: va_rf r :: st) (bn (stL kd r i x) fun _ => F) := by
  intro μ w μ' h
  obtain ⟨u, μ1, h1, h2⟩ := bn_some h
  obtain ⟨a, μ2, h3, h4⟩ := bn_some h1
  obtain ⟨a', rfl, hK, e⟩ := pArr_some h3
  cases e
  by_cases hin : ¬ (i < 0 ∨ mN μ a ≤ i.toNatClampNeg)
  case neg => simp only [if_neg hin] at h4; cases h4
  simp only [if_pos hin] at h4
  cases h4
  refine ⟨(kk _ w μ' h2).1, ?_⟩
  intro p e s m args below meth c x0 s0 H locs ls hc g1 g2 hS hD hl
  have hcell := wd_arr hD hk hK
  rw [hj] at hcell
  have hA := (hc.2.2.2.2.2.2.2.2.1.1.2 1 _ rfl).1
  refine W.last hc.1 hc.2.1 hcell (hA _ _) (fun q => by cases q) (by rw [arrV_size]; exact hin) rfl rfl hd fun H' e1 e2 e3 => ?_
  have hD' : Wd Γ (tL μ kd a i.toNatClampNeg x) H' := by
    refine wd_aput hD hk hK ?_ e2 e3 rfl rfl rfl rfl rfl (fun b hb => ?_)
    · rw [e1, arrV_store, hj]
      congr 2
      funext q
      by_cases hq : q = i.toNatClampNeg
      · subst hq
        simp [updV, ev, hK, hj, mK_tL, aI_tL, aL_tL, aP_tL, up3_eq]
      · have hz : ∀ {β : Type} (m : Nat → Nat → Nat → β) (v : β), up3 m kd a i.toNatClampNeg v kd a q = m kd a q := fun m v => up3_ne (Or.inr hq)
        simp [updV, hq, ev, hK, hj, mK_tL, aI_tL, aL_tL, aP_tL, hz]
    · funext q
      have hz : ∀ {β : Type} (m : Nat → Nat → Nat → β) (v : β) (g : Nat), up3 m kd a i.toNatClampNeg v g b q = m g b q := fun m v g => up3_ne (Or.inl hb)
      simp only [ev, mK_tL, aI_tL, aL_tL, aP_tL, hz]
      rfl
  exact (kk _ w μ' h2).2 p e s m args below meth c x0 s0 H' _ ls hc g1 g2 (hS.put e2 e3 (arr_base hD hk (by omega) hK)) hD' hl
