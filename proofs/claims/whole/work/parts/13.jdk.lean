def cK (i : Nat) : M (Option Nat) := fun μ => some (mT μ i, μ)
def kIx (μ : Mem) (o : Nat) (r : Option Nat) : Option Nat := if r = mT μ o then some 0 else if r = mT μ (o + 1) then some 1 else if r = mT μ (o + 2) then some 2 else none
theorem kIx_some {μ : Mem} {o i : Nat} {r : Option Nat} (h : kIx μ o r = some i) : i < 3 ∧ r = mT μ (o + i) := by
  unfold kIx at h
  by_cases h0 : r = mT μ o
  · rw [if_pos h0] at h; cases h; exact ⟨by decide, h0⟩
  rw [if_neg h0] at h
  by_cases h1 : r = mT μ (o + 1)
  · rw [if_pos h1] at h; cases h; exact ⟨by decide, h1⟩
  rw [if_neg h1] at h
  by_cases h2 : r = mT μ (o + 2)
  · rw [if_pos h2] at h; cases h; exact ⟨by decide, h2⟩
  rw [if_neg h2] at h
  cases h
/-- of a text: its bytes, its coder; of its bytes: how many, each; a text as a receiver -/
def kV (r : Option Nat) : M (Option Nat) := fun μ => match kIx μ 1 r with
  | none => none
  | some i => some (mT μ (11 + i), μ)
def kC (r : Option Nat) : M Int32 := fun μ => match kIx μ 1 r with
  | none => none
  | some _ => some (0, μ)
def kLen (r : Option Nat) : M Int32 := fun μ => match kIx μ 11 r with
  | none => none
  | some i => some (Int32.ofNat (kLn.getD i 0), μ)
def kBt (r : Option Nat) (j : Int32) : M Int32 := fun μ => match kIx μ 11 r with
  | none => none
  | some i => if ¬ (j < 0 ∨ kLn.getD i 0 ≤ j.toNatClampNeg) then some ((kBy.getD i []).getD j.toNatClampNeg 0, μ) else none
def kRc (r : Option Nat) : M Nat := fun μ => match kIx μ 1 r with
  | none => none
  | some _ => match r with
    | none => none
    | some a => some (a, μ)
theorem ok_getS0 {α : Type} {Γ : Gam} {y : Mth} {d : Nat} {rv : Rv α} {pc : Nat} {lv : List (Nat × Value)} {st : List Value} {F : Option Nat → M α} {idx : Nat} (w : Cond.fieldLink y.1.cls idx "java/util/ArrayList" "DEFAULTCAPACITY_EMPTY_ELEMENTDATA" "[Ljava/lang/Object;" ∈ lw_g) (hd : decode y.2.1 pc = .ok (.getstatic idx, 3)) (kk : ∀ r : Option Nat, Ok Γ y d rv (pc + 3) lv (va_rf r :: st) (F r)) : Ok Γ y d rv pc lv st (bn (cK 0) F) := by
  intro μ w' μ' h
  obtain ⟨u, μ1, h1, h2⟩ := bn_some h
  cases h1
  refine ⟨(kk _ μ w' μ' h2).1, ?_⟩
  intro p e s m args below meth c x0 s0 H locs ls hc g1 g2 hS hD hl
  have hZ := hc.2.2.2.2.2.2.2.2.1.2.2.1.1
  rw [← hD.2.1] at hZ
  exact va_gets hc.1 hc.2.1 hZ hS hc.2.2.2.2.1 (hc.2.2.2.2.2.1 _ w) (fun x hx => hx) hd ((kk _ μ w' μ' h2).2 p e s m args below meth c x0 s0 H locs ls hc g1 g2 hS hD hl)
theorem ok_getSF {α : Type} {Γ : Gam} {y : Mth} {d : Nat} {rv : Rv α} {pc : Nat} {lv : List (Nat × Value)} {st : List Value} {F : Option Nat → M α} {idx : Nat} (w : Cond.fieldLink y.1.cls idx "jdk/internal/util/Preconditions" "SIOOBE_FORMATTER" "Ljava/util/function/BiFunction;" ∈ lw_g) (hd : decode y.2.1 pc = .ok (.getstatic idx, 3)) (kk : ∀ r : Option Nat, Ok Γ y d rv (pc + 3) lv (va_rf r :: st) (F r)) : Ok Γ y d rv pc lv st (bn (cK 41) F) := by
  intro μ w' μ' h
  obtain ⟨u, μ1, h1, h2⟩ := bn_some h
  cases h1
  refine ⟨(kk _ μ w' μ' h2).1, ?_⟩
  intro p e s m args below meth c x0 s0 H locs ls hc g1 g2 hS hD hl
  have hZ := hc.2.2.2.2.2.2.2.2.1.2.2.2.2.2.1
  rw [← hD.2.1] at hZ
  exact va_gets hc.1 hc.2.1 hZ hS hc.2.2.2.2.1 (hc.2.2.2.2.2.1 _ w) (fun x hx => hx) hd ((kk _ μ w' μ' h2).2 p e s m args below meth c x0 s0 H locs ls hc g1 g2 hS hD hl)
theorem ok_getSC {α : Type} {Γ : Gam} {y : Mth} {d : Nat} {rv : Rv α} {pc : Nat} {lv : List (Nat × Value)} {st : List Value} {F : M α} {idx : Nat} (w : Cond.fieldLink y.1.cls idx "java/lang/String" "COMPACT_STRINGS" "Z" ∈ lw_g) (hd : decode y.2.1 pc = .ok (.getstatic idx, 3)) (kk : Ok Γ y d rv (pc + 3) lv (.int 1 :: st) F) : Ok Γ y d rv pc lv st F := by
  intro μ w' μ' h
  refine ⟨(kk μ w' μ' h).1, ?_⟩
  intro p e s m args below meth c x0 s0 H locs ls hc g1 g2 hS hD hl
  exact va_gets hc.1 hc.2.1 hc.2.2.2.2.2.2.2.2.1.2.2.2.2.1 hS hc.2.2.2.2.1 (hc.2.2.2.2.2.1 _ w) (fun x hx => hx) hd ((kk μ w' μ' h).2 p e s m args below meth c x0 s0 H locs ls hc g1 g2 hS hD hl)
theorem ok_ldcM {α : Type} {Γ : Gam} {y : Mth} {d : Nat} {rv : Rv α} {pc : Nat} {lv : List (Nat × Value)} {st : List Value} {F : Option Nat → M α} {idx : Nat} (w : Cond.classLink y.1.cls idx "[Ljava/lang/Object;" ∈ lw_g) (hd : decode y.2.1 pc = .ok (.ldc idx, 2)) (kk : ∀ r : Option Nat, Ok Γ y d rv (pc + 2) lv (va_rf r :: st) (F r)) : Ok Γ y d rv pc lv st (bn (cK 40) F) := by
  intro μ w' μ' h
  obtain ⟨u, μ1, h1, h2⟩ := bn_some h
  cases h1
  refine ⟨(kk _ μ w' μ' h2).1, ?_⟩
  intro p e s m args below meth c x0 s0 H locs ls hc g1 g2 hS hD hl
  obtain ⟨mi, e1, hM⟩ := hc.2.2.2.2.2.2.2.2.1.2.2.2.1
  have hk := (kk _ μ w' μ' h2).2 p e s m args below meth c x0 s0 H locs ls hc g1 g2 hS hD hl
  rw [hD.2.1, e1] at hk
  exact va_ldcM hc.1 hc.2.1 hc.2.2.2.2.1 (hc.2.2.2.2.2.1 _ w) hM hd hk
theorem ok_getC {α : Type} {Γ : Gam} {y : Mth} {d : Nat} {rv : Rv α} {pc : Nat} {lv : List (Nat × Value)} {st : List Value} {F : Option Nat → M α} {r : Option Nat} {idx kd : Nat} (hk : 64 ≤ kd) (hj : kd % 8 = 4) (w1 : Cond.methodLink y.1.cls idx ⟨"java/lang/Object", "getClass", "()Ljava/lang/Class;"⟩ ∈ lw_g) (w2 : Cond.declares ⟨"java/lang/Object", "getClass", "()Ljava/lang/Class;"⟩ ∈ lw_nn) (w3 : Cond.selects "[Ljava/lang/Object;" ⟨"java/lang/Object", "getClass", "()Ljava/lang/Class;"⟩ ⟨"java/lang/Object", "getClass", "()Ljava/lang/Class;"⟩ ∈ lw_g) (w4 : Cond.instanceMethod ⟨"java/lang/Object", "getClass", "()Ljava/lang/Class;"⟩ ∈ lw_g) (w5 : Cond.native ⟨"java/lang/Object", "getClass", "()Ljava/lang/Class;"⟩ ∈ lw_g)
    (hdep : 1 ≤ d) (hst : st.length ≤ 20) (hd : decode y.2.1 pc = .ok (.invokevirtual idx, 3)) (kk : ∀ q : Option Nat, Ok Γ y d rv (pc + 3) lv (va_rf q :: st) (F q)) : Ok Γ y d rv pc lv (va_rf r :: st) (bn (pArr kd r) fun _ => bn (cK 40) F) := by
  intro μ w' μ' h
  obtain ⟨a, μ0, h0, h00⟩ := bn_some h
  obtain ⟨a', rfl, hK, e⟩ := pArr_some h0
  cases e
  obtain ⟨u, μ1, h1, h2⟩ := bn_some h00
  cases h1
  refine ⟨(kk _ μ w' μ' h2).1, ?_⟩
  intro p e s m args below meth c x0 s0 H locs ls hc g1 g2 hS hD hl
  obtain ⟨mi, e1, hM⟩ := hc.2.2.2.2.2.2.2.2.1.2.2.2.1
  have hkk := (kk _ μ w' μ' h2).2 p e s m args below meth c x0 s0 H locs ls hc g1 g2 hS hD hl
  rw [hD.2.1, e1] at hkk
  have hts := hc.2.2.2.2.2.1
  have hcell := wd_arr hD hk hK
  rw [hj] at hcell
  have hz := cat_sum st
  have hRA := (hc.2.2.2.2.2.2.2.2.1.1.2 4 _ rfl).2
  exact va_getC hc.1 hc.2.1 (by rw [hl.1, hc.2.2.2.1]) hc.2.2.2.2.1 (hts _ w1) (va_Nw.use rfl (hc.2.2.2.2.2.2.2.2.1.2.1 _ w2)) (hts _ w3) (hts _ w4) (hts _ w5) hM ⟨_, hcell, rfl, va_nmO hRA rfl⟩ hdep (by show _ ≤ 64 * d; omega) hd hkk
theorem ok_ldcS0 {α : Type} {Γ : Gam} {y : Mth} {d : Nat} {rv : Rv α} {pc : Nat} {lv : List (Nat × Value)} {st : List Value} {F : Option Nat → M α} (hy : y.1.cls = "GrainPit$Reader") (hd : decode y.2.1 pc = .ok (.ldc 143, 2)) (kk : ∀ r : Option Nat, Ok Γ y d rv (pc + 2) lv (va_rf r :: st) (F r)) : Ok Γ y d rv pc lv st (bn (cK 1) F) := by
  intro μ w' μ' h
  obtain ⟨u, μ1, h1, h2⟩ := bn_some h
  cases h1
  refine ⟨(kk _ μ w' μ' h2).1, ?_⟩
  intro p e s m args below meth c x0 s0 H locs ls hc g1 g2 hS hD hl
  obtain ⟨aK, aV, q0, q1⟩ := hc.2.2.2.2.2.2.2.2.1.2.2.2.2.2.2.1
  have hkk := (kk _ μ w' μ' h2).2 p e s m args below meth c x0 s0 H locs ls hc g1 g2 hS hD hl
  rw [hD.2.1, (q0 0 (by decide)).1] at hkk
  exact va_ldcS hc.1 hc.2.1 (by rw [← hy]; exact hc.2.2.2.2.1) q1.2.1 hd hkk
theorem ok_ldcS1 {α : Type} {Γ : Gam} {y : Mth} {d : Nat} {rv : Rv α} {pc : Nat} {lv : List (Nat × Value)} {st : List Value} {F : Option Nat → M α} (hy : y.1.cls = "GrainPit$Reader") (hd : decode y.2.1 pc = .ok (.ldc 128, 2)) (kk : ∀ r : Option Nat, Ok Γ y d rv (pc + 2) lv (va_rf r :: st) (F r)) : Ok Γ y d rv pc lv st (bn (cK 2) F) := by
  intro μ w' μ' h
  obtain ⟨u, μ1, h1, h2⟩ := bn_some h
  cases h1
  refine ⟨(kk _ μ w' μ' h2).1, ?_⟩
  intro p e s m args below meth c x0 s0 H locs ls hc g1 g2 hS hD hl
  obtain ⟨aK, aV, q0, q1⟩ := hc.2.2.2.2.2.2.2.2.1.2.2.2.2.2.2.1
  have hkk := (kk _ μ w' μ' h2).2 p e s m args below meth c x0 s0 H locs ls hc g1 g2 hS hD hl
  rw [hD.2.1, (q0 1 (by decide)).1] at hkk
  exact va_ldcS hc.1 hc.2.1 (by rw [← hy]; exact hc.2.2.2.2.1) q1.2.2.1 hd hkk
theorem ok_ldcS2 {α : Type} {Γ : Gam} {y : Mth} {d : Nat} {rv : Rv α} {pc : Nat} {lv : List (Nat × Value)} {st : List Value} {F : Option Nat → M α} (hy : y.1.cls = "GrainPitModel") (hd : decode y.2.1 pc = .ok (.ldc 110, 2)) (kk : ∀ r : Option Nat, Ok Γ y d rv (pc + 2) lv (va_rf r :: st) (F r)) : Ok Γ y d rv pc lv st (bn (cK 3) F) := by
  intro μ w' μ' h
  obtain ⟨u, μ1, h1, h2⟩ := bn_some h
  cases h1
  refine ⟨(kk _ μ w' μ' h2).1, ?_⟩
  intro p e s m args below meth c x0 s0 H locs ls hc g1 g2 hS hD hl
  obtain ⟨aK, aV, q0, q1⟩ := hc.2.2.2.2.2.2.2.2.1.2.2.2.2.2.2.1
  have hkk := (kk _ μ w' μ' h2).2 p e s m args below meth c x0 s0 H locs ls hc g1 g2 hS hD hl
  rw [hD.2.1, (q0 2 (by decide)).1] at hkk
  exact va_ldcS hc.1 hc.2.1 (by rw [← hy]; exact hc.2.2.2.2.1) q1.2.2.2.1 hd hkk
theorem ok_ldcS3 {α : Type} {Γ : Gam} {y : Mth} {d : Nat} {rv : Rv α} {pc : Nat} {lv : List (Nat × Value)} {st : List Value} {F : Option Nat → M α} (hy : y.1.cls = "GrainPitModel") (hd : decode y.2.1 pc = .ok (.ldc 151, 2)) (kk : ∀ r : Option Nat, Ok Γ y d rv (pc + 2) lv (va_rf r :: st) (F r)) : Ok Γ y d rv pc lv st (bn (cK 2) F) := by
  intro μ w' μ' h
  obtain ⟨u, μ1, h1, h2⟩ := bn_some h
  cases h1
  refine ⟨(kk _ μ w' μ' h2).1, ?_⟩
  intro p e s m args below meth c x0 s0 H locs ls hc g1 g2 hS hD hl
  obtain ⟨aK, aV, q0, q1⟩ := hc.2.2.2.2.2.2.2.2.1.2.2.2.2.2.2.1
  have hkk := (kk _ μ w' μ' h2).2 p e s m args below meth c x0 s0 H locs ls hc g1 g2 hS hD hl
  rw [hD.2.1, (q0 1 (by decide)).1] at hkk
  exact va_ldcS hc.1 hc.2.1 (by rw [← hy]; exact hc.2.2.2.2.1) q1.2.2.2.2 hd hkk
theorem kx {Γ : Gam} {U : State} (h : EX Γ U) : ∃ aK aV : Nat → Nat, (∀ i, i < 3 → gT Γ (1 + i) = some (aK i) ∧ gT Γ (11 + i) = some (aV i)) ∧ vk_S 3 kLn kBy aK aV (fun q => gB Γ ≤ q) U U.heap := by
  obtain ⟨aK, aV, q0, q1, -⟩ := h.2.2.2.2.1
  exact ⟨aK, aV, q0, q1⟩
theorem ok_kV {α : Type} {Γ : Gam} {y : Mth} {d : Nat} {rv : Rv α} {pc : Nat} {lv : List (Nat × Value)} {st : List Value} {F : Option Nat → M α} {r : Option Nat} {idx : Nat} (w : Cond.fieldLink y.1.cls idx "java/lang/String" "value" "[B" ∈ lw_g) (hd : decode y.2.1 pc = .ok (.getfield idx, 3)) (kk : ∀ q : Option Nat, Ok Γ y d rv (pc + 3) lv (va_rf q :: st) (F q)) : Ok Γ y d rv pc lv (va_rf r :: st) (bn (kV r) F) := by
  intro μ w' μ' h
  obtain ⟨u, μ1, h1, h2⟩ := bn_some h
  unfold kV at h1
  cases hi : kIx μ 1 r with
  | none => rw [hi] at h1; cases h1
  | some i =>
    rw [hi] at h1
    cases h1
    obtain ⟨hi3, hr⟩ := kIx_some hi
    refine ⟨(kk _ μ w' μ' h2).1, ?_⟩
    intro p e s m args below meth c x0 s0 H locs ls hc g1 g2 hS hD hl
    obtain ⟨aK, aV, q0, q1⟩ := kx hc.2.2.2.2.2.2.2.2.1.2.2
    have hkk := (kk _ μ w' μ' h2).2 p e s m args below meth c x0 s0 H locs ls hc g1 g2 hS hD hl
    rw [hD.2.1, (q0 i hi3).2] at hkk
    rw [hr, hD.2.1, (q0 i hi3).1]
    exact vk_getf hc.1 hc.2.1 (q1.1 i hi3).2.2.1 hS hc.2.2.2.2.1 (hc.2.2.2.2.2.1 _ w) (fun x hx => hx) hd hkk
theorem ok_kC {α : Type} {Γ : Gam} {y : Mth} {d : Nat} {rv : Rv α} {pc : Nat} {lv : List (Nat × Value)} {st : List Value} {F : Int32 → M α} {r : Option Nat} {idx : Nat} (w : Cond.fieldLink y.1.cls idx "java/lang/String" "coder" "B" ∈ lw_g) (hd : decode y.2.1 pc = .ok (.getfield idx, 3)) (kk : ∀ q : Int32, Ok Γ y d rv (pc + 3) lv (.int q :: st) (F q)) : Ok Γ y d rv pc lv (va_rf r :: st) (bn (kC r) F) := by
  intro μ w' μ' h
  obtain ⟨u, μ1, h1, h2⟩ := bn_some h
  unfold kC at h1
  cases hi : kIx μ 1 r with
  | none => rw [hi] at h1; cases h1
  | some i =>
    rw [hi] at h1
    cases h1
    obtain ⟨hi3, hr⟩ := kIx_some hi
    refine ⟨(kk _ μ w' μ' h2).1, ?_⟩
    intro p e s m args below meth c x0 s0 H locs ls hc g1 g2 hS hD hl
    obtain ⟨aK, aV, q0, q1⟩ := kx hc.2.2.2.2.2.2.2.2.1.2.2
    have hkk := (kk _ μ w' μ' h2).2 p e s m args below meth c x0 s0 H locs ls hc g1 g2 hS hD hl
    rw [hr, hD.2.1, (q0 i hi3).1]
    exact vk_getf hc.1 hc.2.1 (q1.1 i hi3).2.1 hS hc.2.2.2.2.1 (hc.2.2.2.2.2.1 _ w) (fun x hx => hx) hd hkk
theorem ok_kLen {α : Type} {Γ : Gam} {y : Mth} {d : Nat} {rv : Rv α} {pc : Nat} {lv : List (Nat × Value)} {st : List Value} {F : Int32 → M α} {r : Option Nat} (hd : decode y.2.1 pc = .ok (.arraylength, 1)) (kk : ∀ q : Int32, Ok Γ y d rv (pc + 1) lv (.int q :: st) (F q)) : Ok Γ y d rv pc lv (va_rf r :: st) (bn (kLen r) F) := by
  intro μ w' μ' h
  obtain ⟨u, μ1, h1, h2⟩ := bn_some h
  unfold kLen at h1
  cases hi : kIx μ 11 r with
  | none => rw [hi] at h1; cases h1
  | some i =>
    rw [hi] at h1
    cases h1
    obtain ⟨hi3, hr⟩ := kIx_some hi
    refine ⟨(kk _ μ w' μ' h2).1, ?_⟩
    intro p e s m args below meth c x0 s0 H locs ls hc g1 g2 hS hD hl
    obtain ⟨aK, aV, q0, q1⟩ := kx hc.2.2.2.2.2.2.2.2.1.2.2
    have hkk := (kk _ μ w' μ' h2).2 p e s m args below meth c x0 s0 H locs ls hc g1 g2 hS hD hl
    rw [hr, hD.2.1, (q0 i hi3).2]
    exact va_tlen hc.1 hc.2.1 (q1.1 i hi3).2.2.2 hS rfl hd hkk
theorem ok_kBt {α : Type} {Γ : Gam} {y : Mth} {d : Nat} {rv : Rv α} {pc : Nat} {lv : List (Nat × Value)} {st : List Value} {F : Int32 → M α} {r : Option Nat} {j : Int32} (hd : decode y.2.1 pc = .ok (.baload, 1)) (kk : ∀ q : Int32, Ok Γ y d rv (pc + 1) lv (.int q :: st) (F q)) : Ok Γ y d rv pc lv (.int j :: va_rf r :: st) (bn (kBt r j) F) := by
  intro μ w' μ' h
  obtain ⟨u, μ1, h1, h2⟩ := bn_some h
  unfold kBt at h1
  cases hi : kIx μ 11 r with
  | none => rw [hi] at h1; cases h1
  | some i =>
    rw [hi] at h1
    by_cases hin : ¬ (j < 0 ∨ kLn.getD i 0 ≤ j.toNatClampNeg)
    case neg => simp only [if_neg hin] at h1; cases h1
    simp only [if_pos hin] at h1
    cases h1
    obtain ⟨hi3, hr⟩ := kIx_some hi
    refine ⟨(kk _ μ w' μ' h2).1, ?_⟩
    intro p e s m args below meth c x0 s0 H locs ls hc g1 g2 hS hD hl
    obtain ⟨aK, aV, q0, q1⟩ := kx hc.2.2.2.2.2.2.2.2.1.2.2
    have hkk := (kk _ μ w' μ' h2).2 p e s m args below meth c x0 s0 H locs ls hc g1 g2 hS hD hl
    rw [hr, hD.2.1, (q0 i hi3).2]
    exact va_tb hc.1 hc.2.1 (q1.1 i hi3).2.2.2 hS hin rfl hd hkk
/-- a call on a text -/
theorem ok_callK {α : Type} {Γ : Gam} {y : Mth} {d : Nat} {rv : Rv α} {pc : Nat} {lv : List (Nat × Value)} {st : List Value} {F : Int32 → M α} {G : Nat → M Int32} {yc : Mth} {dc : Nat} {r : Option Nat} {idx : Nat} (As rest : List Value) (hC : ∀ b : Nat, Ct Γ yc dc vI (va_rf (some b) :: As) (G b)) (hy : CY yc As.length)
    (w1 : Cond.methodLink y.1.cls idx yc.1 ∈ lw_g) (w2 : Cond.instanceMethod yc.1 ∈ lw_g) (w3 : Cond.selects "java/lang/String" yc.1 yc.1 ∈ lw_g) (hdep : dc + 1 ≤ d) (hrest : rest.length ≤ 4) (hst : st = As.reverse ++ va_rf r :: rest) (hd : decode y.2.1 pc = .ok (.invokevirtual idx, 3)) (kk : ∀ x : Int32, Ok Γ y d rv (pc + 3) lv (.int x :: rest) (F x)) : Ok Γ y d rv pc lv st (bn (kRc r) fun b => bn (G b) F) := by
  subst hst
  intro μ w μ' h
  obtain ⟨b, μ0, h1, h2⟩ := bn_some h
  unfold kRc at h1
  cases hi : kIx μ 1 r with
  | none => rw [hi] at h1; cases h1
  | some i =>
    rw [hi] at h1
    cases r with
    | none => cases h1
    | some b' =>
      cases h1
      obtain ⟨hi3, hr⟩ := kIx_some hi
      obtain ⟨x, μ1, h3, h4⟩ := bn_some h2
      have hk := kk x μ1 w μ' h4
      have hg := hC b μ x μ1 h3
      refine ⟨⟨Nat.le_trans hg.1.1 hk.1.1, Nat.le_trans hg.1.2 hk.1.2⟩, ?_⟩
      intro p e s m args below meth c x0 s0 H locs ls hc g1 g2 hS hD hl
      have hM := hg.2 hc.2.2.2.2.2.2.2.2.2.1
      obtain ⟨aK, aV, q0, q1⟩ := kx hc.2.2.2.2.2.2.2.2.1.2.2
      have hb : b = aK i := by
        rw [hD.2.1, (q0 i hi3).1] at hr
        exact Option.some.inj hr
      subst hb
      have hsum := cat_sum rest
      refine w_back (a := (Value.ref (aK i) :: As).toArray) (va_runV (As := As) (rest := rest) (b := aK i) ⟨hc.1, hc.2.1, hc.2.2.2.1, hc.2.2.2.2.1, hc.2.2.2.2.2.1⟩ hM ⟨cy_callB hc hy w1 hdep, hc.2.2.2.2.2.1 _ w2, hc.2.2.2.2.2.1 _ w3⟩ ⟨pc_blind hc.2.2.2.2.2.2.2.2.2.1 _ _, vk_recv q1 hi3 hS, fun U hU hW => pc_at hc hS hD hU hW⟩ rfl rfl hl.1 rfl (by show 2 * 0 + _ ≤ 8; omega) hd ⟨by show _ ≤ mX μ' - x0; omega, by show _ ≤ mS μ' - s0; omega⟩) hS g1 g2 hg.1 ?_
      intro H' locs' hS' hD'
      exact hk.2 p e s m args below meth c x0 s0 H' locs' ls hc (by omega) (by omega) hS' hD' hl
