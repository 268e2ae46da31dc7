theorem ar_int {args : Array Value} {s : State} (h : (Cond.arrayClass .int).before args s = true) : ∃ cA : ClassId, ArrOfT s cA .int ∧ va_RA s cA .int := by
  obtain ⟨c, k, comp, h1, h2, h3⟩ := Cond.arrayClass_spec h
  exact ⟨c, fun n z => ⟨fun k h => (by cases h), k, h2, comp, h3⟩, h1⟩
theorem ar_long {args : Array Value} {s : State} (h : (Cond.arrayClass .long).before args s = true) : ∃ cA : ClassId, ArrOfT s cA .long ∧ va_RA s cA .long := by
  obtain ⟨c, k, comp, h1, h2, h3⟩ := Cond.arrayClass_spec h
  exact ⟨c, fun n z => ⟨fun k h => (by cases h), k, h2, comp, h3⟩, h1⟩
theorem ar_boolean {args : Array Value} {s : State} (h : (Cond.arrayClass .boolean).before args s = true) : ∃ cA : ClassId, ArrOfT s cA .boolean ∧ va_RA s cA .boolean := by
  obtain ⟨c, k, comp, h1, h2, h3⟩ := Cond.arrayClass_spec h
  exact ⟨c, fun n z => ⟨fun k h => (by cases h), k, h2, comp, h3⟩, h1⟩
theorem ar_char {args : Array Value} {s : State} (h : (Cond.arrayClass .char).before args s = true) : ∃ cA : ClassId, ArrOfT s cA .char ∧ va_RA s cA .char := by
  obtain ⟨c, k, comp, h1, h2, h3⟩ := Cond.arrayClass_spec h
  exact ⟨c, fun n z => ⟨fun k h => (by cases h), k, h2, comp, h3⟩, h1⟩
theorem ar_byte {args : Array Value} {s : State} (h : (Cond.arrayClass .byte).before args s = true) : ∃ cA : ClassId, ArrOfT s cA .byte ∧ va_RA s cA .byte := by
  obtain ⟨c, k, comp, h1, h2, h3⟩ := Cond.arrayClass_spec h
  exact ⟨c, fun n z => ⟨fun k h => (by cases h), k, h2, comp, h3⟩, h1⟩
theorem ar_obj {C : String} {args : Array Value} {s : State} (h : (Cond.arrayOver (.object C)).before args s = true) : ∃ cA : ClassId, ArrOfT s cA (.object C) ∧ va_RA s cA (.object C) := by
  obtain ⟨comp, c, k, h1, h2, h3, h4, h5⟩ := Cond.arrayOver_spec h
  exact ⟨c, fun n z => ⟨fun k h => (by cases h), k, h3, comp, h4⟩, k, comp, h3, h4, h1, h5⟩
theorem nn_of {w : Cond} {args : Array Value} {s : State} (hw : nnw w = true) (h : w.before args s = true) : va_Nw w s := by
  cases w <;> first
    | (simp [nnw] at hw; done)
    | exact va_Nw.of rfl h
    | exact h
theorem st_g {args : Array Value} {s : State} (hts : ∀ w ∈ lw_tbl, w.before args s = true) : ∀ w ∈ lw_g, w.before args s = true := fun w hw => hts w (List.mem_filter.mp hw).1
theorem st_n {args : Array Value} {s : State} (hts : ∀ w ∈ lw_tbl, w.before args s = true) : ∀ w ∈ lw_nn, w.before args s = true := fun w hw => hts w (List.mem_filter.mp hw).1
/-- the array types' numbers -/
theorem st_arr {args : Array Value} {s : State} (hts : ∀ w ∈ lw_tbl, w.before args s = true) : ∃ f : Nat → ClassId, ∀ (k : Nat) (q : ClassId × FieldType), (tysA f)[k]? = some q → ArrOfT s q.1 q.2 ∧ va_RA s q.1 q.2 := by
  have hg := st_g hts
  have hn := st_n hts
  obtain ⟨c0, h0⟩ := ar_int (hg _ ac_int)
  obtain ⟨c1, h1⟩ := ar_long (hg _ ac_long)
  obtain ⟨c2, h2⟩ := ar_boolean (hg _ ac_boolean)
  obtain ⟨c3, h3⟩ := ar_char (hg _ ac_char)
  obtain ⟨c4, h4⟩ := ar_obj (hn _ ao_java_lang_Object)
  obtain ⟨c5, h5⟩ := ar_obj (hn _ ao_GrainPit_Month)
  obtain ⟨c6, h6⟩ := ar_obj (hn _ ao_GrainPit_Settle)
  obtain ⟨c7, h7⟩ := ar_byte (hts (.arrayClass .byte) (by decide +kernel))
  refine ⟨fun k => if k = 0 then c0 else if k = 1 then c1 else if k = 2 then c2 else if k = 3 then c3 else if k = 4 then c4 else if k = 5 then c5 else if k = 6 then c6 else c7, ?_⟩
  intro k q hq
  match k, hq with
  | 0, hq => cases hq; exact h0
  | 1, hq => cases hq; exact h1
  | 2, hq => cases hq; exact h2
  | 3, hq => cases hq; exact h3
  | 4, hq => cases hq; exact h4
  | 5, hq => cases hq; exact h5
  | 6, hq => cases hq; exact h6
  | 7, hq => cases hq; exact h7
  | k + 8, hq => simp [tysA] at hq
/-- the types' numbers and slots -/
theorem st_cls {args : Array Value} {s : State} (hts : ∀ w ∈ lw_tbl, w.before args s = true) : ∃ (dC : Nat → ClassId) (dI : Nat → Nat → Nat), ∀ (k : Nat) (q : vw_C), vcl[k]? = some q → u_Kn s q.1 q.2.1 q.2.2 (dC k) (dI k) := by
  have hg := st_g hts
  obtain ⟨c0, i0, h0⟩ := u_known (C := RX0) (T := TX0) (N := 3) (n := 3) hg cf_0.2.1 (hg _ ib_0)
  obtain ⟨c1, i1, h1⟩ := u_known (C := RX1) (T := TX1) (N := 5) (n := 5) hg cf_1.2.1 (hg _ ib_1)
  obtain ⟨c2, i2, h2⟩ := u_known (C := RX2) (T := TX2) (N := 4) (n := 4) hg cf_2.2.1 (hg _ ib_2)
  obtain ⟨c3, i3, h3⟩ := u_known (C := RX3) (T := TX3) (N := 7) (n := 7) hg cf_3.2.1 (hg _ ib_3)
  obtain ⟨c4, i4, h4⟩ := u_known (C := RX4) (T := TX4) (N := 11) (n := 11) hg cf_4.2.1 (hg _ ib_4)
  obtain ⟨c5, i5, h5⟩ := u_known (C := RX5) (T := TX5) (N := 4) (n := 4) hg cf_5.2.1 (hg _ ib_5)
  obtain ⟨c6, i6, h6⟩ := u_known (C := RX6) (T := TX6) (N := 3) (n := 3) hg cf_6.2.1 (hg _ ib_6)
  obtain ⟨c7, i7, h7⟩ := u_known (C := RX7) (T := TX7) (N := 4) (n := 4) hg cf_7.2.1 (hg _ ib_7)
  obtain ⟨c8, i8, h8⟩ := u_known (C := RX8) (T := TX8) (N := 3) (n := 3) hg cf_8.2.1 (hg _ ib_8)
  obtain ⟨c9, i9, h9⟩ := u_known (C := RX9) (T := TX9) (N := 4) (n := 4) hg cf_9.2.1 (hg _ ib_9)
  obtain ⟨c10, i10, h10⟩ := u_known (C := RX10) (T := TX10) (N := 7) (n := 7) hg cf_10.2.1 (hg _ ib_10)
  obtain ⟨c11, i11, h11⟩ := u_known (C := RX11) (T := TX11) (N := 11) (n := 11) hg cf_11.2.1 (hg _ ib_11)
  obtain ⟨c12, i12, h12⟩ := u_known (C := RX12) (T := TX12) (N := 48) (n := 48) hg cf_12.2.1 (hg _ ib_12)
  obtain ⟨c13, i13, h13⟩ := u_known (C := RJx4a65c) (T := TJx4a65c) (N := 3) (n := 3) hg cf_13.2.1 (hg _ ib_13)
  refine ⟨fun k => if k = 0 then c0 else if k = 1 then c1 else if k = 2 then c2 else if k = 3 then c3 else if k = 4 then c4 else if k = 5 then c5 else if k = 6 then c6 else if k = 7 then c7 else if k = 8 then c8 else if k = 9 then c9 else if k = 10 then c10 else if k = 11 then c11 else if k = 12 then c12 else c13, fun k => if k = 0 then i0 else if k = 1 then i1 else if k = 2 then i2 else if k = 3 then i3 else if k = 4 then i4 else if k = 5 then i5 else if k = 6 then i6 else if k = 7 then i7 else if k = 8 then i8 else if k = 9 then i9 else if k = 10 then i10 else if k = 11 then i11 else if k = 12 then i12 else i13, ?_⟩
  intro k q hq
  match k, hq with
  | 0, hq => cases hq; exact h0
  | 1, hq => cases hq; exact h1
  | 2, hq => cases hq; exact h2
  | 3, hq => cases hq; exact h3
  | 4, hq => cases hq; exact h4
  | 5, hq => cases hq; exact h5
  | 6, hq => cases hq; exact h6
  | 7, hq => cases hq; exact h7
  | 8, hq => cases hq; exact h8
  | 9, hq => cases hq; exact h9
  | 10, hq => cases hq; exact h10
  | 11, hq => cases hq; exact h11
  | 12, hq => cases hq; exact h12
  | 13, hq => cases hq; exact h13
  | k + 14, hq => simp [vcl] at hq
def st_tm (i : Nat) : Term := if i = 0 then .string "GrainPit$Reader" 143 else if i = 1 then .string "GrainPit$Reader" 128 else .string "GrainPitModel" 110
theorem st_k1 : ∀ i, i < 3 → Cond.exactly (st_tm i) "java/lang/String" ∈ flatC (Jvm.Cond.and given_1 narrow_1) ∧ Cond.eq (.field (st_tm i) "java/lang/String" "coder" "B") (.int 0) ∈ flatC (Jvm.Cond.and given_1 narrow_1) ∧ Cond.arrayOf (.field (st_tm i) "java/lang/String" "value" "[B") .byte ∈ flatC (Jvm.Cond.and given_1 narrow_1) ∧ Cond.eq (.length (.field (st_tm i) "java/lang/String" "value" "[B")) (.int (Int32.ofNat (kLn.getD i 0))) ∈ flatC (Jvm.Cond.and given_1 narrow_1) := by decide +kernel
def st_el (i j : Nat) : Cond := .eq (.elem (.field (st_tm i) "java/lang/String" "value" "[B") (.int (Int32.ofNat j))) (.int ((kBy.getD i []).getD j 0))
theorem mem_dt {α : Type} {l e : List α} {n m : Nat} (h : (l.drop n).take m = e) {w : α} (hw : w ∈ e) : w ∈ l := by
  rw [← h] at hw; exact List.mem_of_mem_drop (List.mem_of_mem_take hw)
theorem st_s0 : ((flatC (Jvm.Cond.and given_1 narrow_1)).drop 34).take 79 = (List.range 79).map (st_el 0) := by decide +kernel
theorem st_s1 : ((flatC (Jvm.Cond.and given_1 narrow_1)).drop 117).take 13 = (List.range 13).map (st_el 1) := by decide +kernel
theorem st_s2 : ((flatC (Jvm.Cond.and given_1 narrow_1)).drop 285).take 79 = (List.range 79).map (st_el 2) := by decide +kernel
theorem st_k2 : ∀ i, i < 3 → ∀ j, j < kLn.getD i 0 → st_el i j ∈ flatC (Jvm.Cond.and given_1 narrow_1) := by
  intro i hi j hj
  rcases (show i = 0 ∨ i = 1 ∨ i = 2 by omega) with rfl | rfl | rfl
  · exact mem_dt st_s0 (List.mem_map_of_mem (List.mem_range.mpr hj))
  · exact mem_dt st_s1 (List.mem_map_of_mem (List.mem_range.mpr hj))
  · exact mem_dt st_s2 (List.mem_map_of_mem (List.mem_range.mpr hj))
theorem st_k3 : ∀ i, i < 3 → ∀ j, j < 3 → i < j → Cond.not (Cond.eq (st_tm i) (st_tm j)) ∈ flatC (Jvm.Cond.and given_1 narrow_1) := by decide +kernel
theorem st_ref {args : Array Value} {s : State} {own tx : String} {k : Nat} (h1 : (Cond.stringRef own k tx).before args s = true) (h2 : (Cond.exactly (.string own k) "java/lang/String").before args s = true) : ∃ a, vk_R own k tx a s := by
  obtain ⟨a, c, cA, kA, q1, -⟩ := Cond.exactly_spec (args := args) (first := s) (o := none) (s := s) (idx := []) (t := .string own k) (cls := "java/lang/String") h2
  exact ⟨a, vk_R.of h1 q1⟩
theorem st_ne {t u L1 L2 : Nat} {f g : Nat → Value} {A : Nat → Prop} {U : State} {H : Heap} (h1 : va_T .byte t L1 f A U H) (h2 : va_T .byte u L2 g A U H) (h : Int32.ofNat L1 ≠ Int32.ofNat L2 ∨ ∃ j, j < L1 ∧ j < L2 ∧ f j ≠ g j) : t ≠ u := by
  rintro rfl
  obtain ⟨c1, a1, -, -, -, a2, a3, -⟩ := h1
  obtain ⟨c2, b1, -, -, -, b2, b3, -⟩ := h2
  cases a1.symm.trans b1
  rcases h with h | ⟨j, j1, j2, h⟩
  · exact h (a2.symm.trans b2)
  · exact h (Option.some.inj ((a3 j j1).symm.trans (b3 j j2)))
/-- what is known of the outside at the start -/
theorem st_ex {args : Array Value} {s : State} (hts : ∀ w ∈ lw_tbl, w.before args s = true) (hgv : (Jvm.Cond.and given_1 narrow_1).before args s = true) :
    ∃ T : Nat → Option Nat, ((∃ t, T 0 = some t ∧ t < s.heap.size) ∧ (∃ t, T 40 = some t) ∧ (∃ t1 t2 t3, T 1 = some t1 ∧ T 2 = some t2 ∧ T 3 = some t3 ∧ t1 ≠ t2 ∧ t1 ≠ t3 ∧ t2 ≠ t3) ∧ (∃ t1 t2 t3, T 11 = some t1 ∧ T 12 = some t2 ∧ T 13 = some t3 ∧ t1 ≠ t2 ∧ t1 ≠ t3 ∧ t2 ≠ t3)) ∧
      ∀ (l : Launch) (D : va_G) (f : Nat → ClassId) (E : State → Prop), (E s → EX (l, D, f, s.heap.size, T, E) s) ∧ XE (l, D, f, s.heap.size, T, E) s := by
  have hs := flat_of_before _ hgv
  have hA : ∀ a : Nat, a < s.heap.size → ¬ (fun q : Nat => s.heap.size ≤ q) a := fun a ha => Nat.not_le.mpr ha
  obtain ⟨t, ht, hT⟩ := va_Tof (args := args) (s := s) (tm := .static "java/util/ArrayList" "DEFAULTCAPACITY_EMPTY_ELEMENTDATA" "[Ljava/lang/Object;") (ty := .object "java/lang/Object") (N := 0) (f := fun _ => .null) (A := fun q : Nat => s.heap.size ≤ q) (by decide) (hs _ (by decide +kernel)) (va_eqt (z := 0) (hs _ (by decide +kernel))) (fun j hj => absurd hj (Nat.not_lt_zero _)) hA
  have hZ0 := va_Zof (hts (.laysStatic "java/util/ArrayList" "DEFAULTCAPACITY_EMPTY_ELEMENTDATA" "[Ljava/lang/Object;") (by decide +kernel)) (hts (.initialized "java/util/ArrayList") (by decide +kernel)) ht hA
  obtain ⟨mi, hM⟩ := va_Mi.of (args := args) (s := s) (C := "[Ljava/lang/Object;") (hs _ (by decide +kernel))
  have hZ1 := va_Zof (hts (.laysStatic "java/lang/String" "COMPACT_STRINGS" "Z") (by decide +kernel)) (hts (.initialized "java/lang/String") (by decide +kernel)) (va_eqi (z := 1) (hs (.eq (.static "java/lang/String" "COMPACT_STRINGS" "Z") (.int 1)) (by decide +kernel))) hA
  obtain ⟨fm, hZ2⟩ : ∃ fm : Option Nat, va_Z "jdk/internal/util/Preconditions" "SIOOBE_FORMATTER" "Ljava/util/function/BiFunction;" (va_rf fm) (fun q : Nat => s.heap.size ≤ q) s s.heap := by
    rcases va_Zqof (A := fun q : Nat => s.heap.size ≤ q) (hts (.laysStatic "jdk/internal/util/Preconditions" "SIOOBE_FORMATTER" "Ljava/util/function/BiFunction;") (by decide +kernel)) (hts (.initialized "jdk/internal/util/Preconditions") (by decide +kernel)) (hs _ (by decide +kernel)) hA with h | ⟨u, h⟩
    · exact ⟨none, h⟩
    · exact ⟨some u, h⟩
  obtain ⟨aK, aV, hK, hE⟩ := vk_Sof (args := args) (s := s) (N := 3) (tm := st_tm) (len := kLn) (byt := kBy) (A := fun q : Nat => s.heap.size ≤ q) (by decide) (fun i hi => hs _ (st_k1 i hi).1) (fun i hi => hs _ (st_k1 i hi).2.1) (fun i hi => hs _ (st_k1 i hi).2.2.1) (fun i hi => hs _ (st_k1 i hi).2.2.2) (fun i hi j hj => hs _ (st_k2 i hi j hj)) (fun i j hi hj hne => by
    rcases Nat.lt_or_gt_of_ne hne with h | h
    · exact Or.inl (hs _ (st_k3 i hi j hj h))
    · exact Or.inr (hs _ (st_k3 j hj i hi h))) hA
  have r0 : vk_R "GrainPit$Reader" 143 "limit first keep cap diff fee day month price lots grade place from is min max " (aK 0) s := vk_R.of (hts _ (by decide +kernel)) (hE 0 (by decide))
  have r1 : vk_R "GrainPit$Reader" 128 ";?:<>=+-*/()," (aK 1) s := vk_R.of (hts _ (by decide +kernel)) (hE 1 (by decide))
  have r2 : vk_R "GrainPitModel" 110 "limit first keep cap diff fee from is min max day month price lots grade place " (aK 2) s := vk_R.of (hts _ (by decide +kernel)) (hE 2 (by decide))
  have r3 : vk_R "GrainPitModel" 151 ";?:<>=+-*/()," (aK 1) s := vk_R.of (hts _ (by decide +kernel)) (va_eqR (t := .string "GrainPit$Reader" 128) (hs _ (by decide +kernel)) (hE 1 (by decide)))
  have z1 : vx_Zq Bundle.tN "UNASSIGNED_STACK" Bundle.steD (fun q : Nat => s.heap.size ≤ q) s s.heap := vx_Zqof (hts _ (by decide +kernel)) (hts _ (by decide +kernel)) (hs _ (by decide +kernel)) hA
  have z2 : vx_Zq Bundle.tN "SUPPRESSED_SENTINEL" Bundle.listD (fun q : Nat => s.heap.size ≤ q) s s.heap := vx_Zqof (hts _ (by decide +kernel)) (hts _ (by decide +kernel)) (hs _ (by decide +kernel)) hA
  have x1 : ∃ a, vk_R "GrainPit" 76 "no such name or day" a s := st_ref (hts _ (by decide +kernel)) (hs _ (by decide +kernel))
  have x2 : ∃ a, vk_R "GrainPit" 102 "no such member or payment" a s := st_ref (hts _ (by decide +kernel)) (hs _ (by decide +kernel))
  have x3 : ∃ a, vk_R "GrainPit" 219 "no such member or look" a s := st_ref (hts _ (by decide +kernel)) (hs _ (by decide +kernel))
  have x4 : ∃ a, vk_R "GrainPit" 238 "no such member or month" a s := st_ref (hts _ (by decide +kernel)) (hs _ (by decide +kernel))
  have x5 : ∃ a, vk_R "GrainPit" 346 "no such member or day" a s := st_ref (hts _ (by decide +kernel)) (hs _ (by decide +kernel))
  have v0 := (hK.1 0 (by decide)).2.2.2
  have v1 := (hK.1 1 (by decide)).2.2.2
  have v2 := (hK.1 2 (by decide)).2.2.2
  have tl : t < s.heap.size := by
    obtain ⟨c1, a1, -⟩ := hT
    exact (Array.getElem?_eq_some_iff.mp a1).1
  refine ⟨fun k => if k = 0 then some t else if k = 1 then some (aK 0) else if k = 2 then some (aK 1) else if k = 3 then some (aK 2) else if k = 11 then some (aV 0) else if k = 12 then some (aV 1) else if k = 13 then some (aV 2) else if k = 40 then some mi else if k = 41 then fm else none, ⟨⟨t, rfl, tl⟩, ⟨mi, rfl⟩, ⟨aK 0, aK 1, aK 2, rfl, rfl, rfl, ?_, ?_, ?_⟩, ⟨aV 0, aV 1, aV 2, rfl, rfl, rfl, ?_, ?_, ?_⟩⟩, fun l D f E => ⟨fun hEs => ?_, z1, z2, x1, x2, x3, x4, x5⟩⟩
  · exact fun h => absurd (hK.2 0 1 (by decide) (by decide) h) (by decide)
  · exact fun h => absurd (hK.2 0 2 (by decide) (by decide) h) (by decide)
  · exact fun h => absurd (hK.2 1 2 (by decide) (by decide) h) (by decide)
  · exact st_ne v0 v1 (Or.inl (by decide))
  · exact st_ne v0 v2 (Or.inr ⟨30, by decide, by decide, fun h => absurd (Value.int.inj h) (by decide)⟩)
  · exact st_ne v1 v2 (Or.inl (by decide))
  · refine ⟨⟨hZ0, t, rfl, hT⟩, ⟨mi, rfl, hM⟩, hZ1, hZ2, ⟨aK, aV, fun i hi => ?_, hK, r0, r1, r2, r3⟩, hEs⟩
    rcases (show i = 0 ∨ i = 1 ∨ i = 2 by omega) with rfl | rfl | rfl <;> exact ⟨rfl, rfl⟩
