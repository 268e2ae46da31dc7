theorem tx_all1 : ∀ w ∈ (nx_at "GrainPit" 78 NSE 13 prog_33_method_4_code NSN).filter goodWord, w ∈ lw_tbl := by decide +kernel
theorem tx_all2 : ∀ w ∈ (nx_at "GrainPit" 78 NSE 13 prog_33_method_4_code NSN).filter (fun w => !goodWord w), w ∈ lw_tbl ∧ nnw w = true := by decide +kernel
theorem tx_h1 : ∀ w ∈ (nx_at "GrainPit" 78 NSE 13 prog_33_method_4_code NSN).filter goodWord, w ∈ lw_g := fun w hw => List.mem_filter.mpr ⟨tx_all1 w hw, (List.mem_filter.mp hw).2⟩
theorem tx_h2 : ∀ w ∈ (nx_at "GrainPit" 78 NSE 13 prog_33_method_4_code NSN).filter (fun w => !goodWord w), w ∈ lw_nn := fun w hw => List.mem_filter.mpr ⟨(tx_all2 w hw).1, (tx_all2 w hw).2⟩
theorem tx_good : ∀ w ∈ Cond.classLink "GrainPit" 74 NSE :: Cond.initialized NSE :: nx_at "GrainPit" 78 NSE 13 prog_33_method_4_code NSN, vx_ot w = true := by decide +kernel
theorem tx_w1 : Cond.classLink "GrainPit" 74 NSE ∈ lw_g := gin 1093 (by decide +kernel) rfl
theorem tx_w2 : Cond.initialized NSE ∈ lw_g := gin 110 (by decide +kernel) rfl
def ox {α β : Type} (o : Option β) (F : β → M α) (E : M α) : M α := match o with
  | some x => F x
  | none => E
/-- a helper of the law: its body has a table of handlers -/
def CtH {α : Type} (Γ : Gam) (y : Mth) (d : Nat) (rv : α → Option Value) (av : List Value) (G : M α) : Prop :=
  ∀ (μ : Mem) (x : α) (μ' : Mem), G μ = some (x, μ') → (mX μ ≤ mX μ' ∧ mS μ ≤ mS μ') ∧
    (Stab Γ → ∀ hh, Cond.codeWith y.1 y.2.1 y.2.2.1 y.2.2.2 hh ∈ lw_g → Met (gL Γ) y.1 (Cond.codeWith y.1 y.2.1 y.2.2.1 y.2.2.2 hh :: lw_g) (rmo d (mX μ' - mX μ) (mS μ' - mS μ)) (va_Pc av (fun U => Wd Γ μ U.heap ∧ KK Γ U ∧ gB Γ ≤ U.heap.size)) (Qo Γ (rv x) μ') (mX μ' - mX μ) (mS μ' - mS μ) (fun q => gB Γ ≤ q))
theorem ct_inH {α : Type} {Γ : Gam} {y : Mth} {d : Nat} {rv : α → Option Value} {av : List Value} {F : M α} {lv : List (Nat × Value)} {hh0 : List (Nat × Nat × Nat × Nat)} (_ : Cond.codeWith y.1 y.2.1 y.2.2.1 y.2.2.2 hh0 ∈ lw_g) (hp : plainName y.1.cls = true) (hl' : lv_args 0 av = lv) (hlen : (lg_sl av).length ≤ y.2.2.1) (k : Ok Γ y d (qo Γ rv) 0 lv [] F) : CtH Γ y d rv av F := by
  subst hl'
  intro μ x μ' h
  refine ⟨(k μ x μ' h).1, fun hst hh hw => ?_⟩
  have hX : vx_Met (gL Γ) y.1 (Cond.codeWith y.1 y.2.1 y.2.2.1 y.2.2.2 hh :: lw_g) (rmo d (mX μ' - mX μ) (mS μ' - mS μ)) (va_Pc av (fun U => Wd Γ μ U.heap ∧ KK Γ U ∧ gB Γ ≤ U.heap.size)) (Qo Γ (rv x) μ') (fun _ _ _ => False) (mX μ' - mX μ) (mS μ' - mS μ) (fun q => gB Γ ≤ q) := by
    refine vx_ofWH (cc := y.2.1) (maxL := y.2.2.1) (ret := y.2.2.2) (hh := hh) hp rfl ?_
    intro p e s m args below meth c s₁ B hml hv
    obtain ⟨rfl, hD, hKK, hb⟩ := hv
    have hts := atoms_spec (ws := Cond.codeWith y.1 y.2.1 y.2.2.1 y.2.2.2 hh :: lw_g) B.pre
    have hc : Ctx Γ y p s m av.toArray meth c := ⟨B.exec, B.bytes, B.returns, hml, findClass_of_methodNamed B.named, fun w hw => hts w (List.mem_cons_of_mem _ hw), B.notSynchronized, (name_of_methodNamed B.named B.method).1, hKK, hst, hb, ctx_tab B hts⟩
    have hl := lv_entry av (n := y.2.2.1) hlen
    rw [lg_entry_eq]
    have hW := (k μ x μ' h).2 p e s m av.toArray below meth c (mX μ) (mS μ) s.heap [] _ hc (Nat.le_refl _) (Nat.le_refl _) va_S.rf hD hl
    rw [Nat.sub_self, Nat.sub_self] at hW
    exact vx_ret hW
  intro p e ha hc hk s m args below hf happ hP hK
  obtain ⟨n, o, g1, g2, g3, g4⟩ := hX p e ha hc hk s m args below hf happ hP hK
  refine ⟨n, o, g1, g2, g3, ?_⟩
  rcases g4 with g4 | ⟨q, -, E, ce, L, hf, -⟩
  · exact g4
  · exact absurd hf id
theorem nx_0 : decode prog_33_method_4_code 0 = .ok (.aload_n 0, 1) := by decide +kernel
theorem nx_1 : decode prog_33_method_4_code 1 = .ok (.aload_n 1, 1) := by decide +kernel
theorem nx_2 : decode prog_33_method_4_code 2 = .ok (.invokespecial 13, 3) := by decide +kernel
theorem nx_5 : decode prog_33_method_4_code 5 = .ok (.return_, 1) := by decide +kernel
theorem nx_throwW {p : Program} {l : Launch} {e : Env} {R : Room} {s : State} {m : MethodId} {args : Array Value} {below : List Frame} {meth : Method} {c : Code} {H : Heap} {locs : List Loc} {cells slots : Nat} {ls : Array Slot} {rest : List Value} {Qc : Array Value → State → Outcome → State → Prop} {XC : String → State → State → Prop} {free : Addr → Prop} {cc : ByteArray} {pc : Nat} (hexec : p.tables.exec = Jvm.exec) (hb : c.code = cc) (hl : l.stackTraces = false) {own cls text : String} {names : List String} {ik is ic mc ms sa ix : Nat} {A : Nat → Prop} {rx : ByteArray}
    (x0 : decode rx 0 = .ok (.aload_n 0, 1)) (x1 : decode rx 1 = .ok (.aload_n 1, 1)) (x2 : decode rx 2 = .ok (.invokespecial ix, 3)) (x5 : decode rx 5 = .ok (.return_, 1))
    (hown : s.vm.findClass own = some m.cls) (hcls : Bundle.fit cls = true) (hnames : ∀ n ∈ names, Bundle.fit n = true)
    (hk : (Cond.classLink own ik cls).before args s = true) (hini : (Cond.initialized cls).before args s = true) (hstr : vk_R own is text sa s) (hat : ∀ w ∈ nx_at own ic cls ix rx names, w.before args s = true)
    (hgood : ∀ w ∈ Cond.classLink own ik cls :: Cond.initialized cls :: nx_at own ic cls ix rx names, vx_ot w = true)
    (hU : vx_Zq Bundle.tN "UNASSIGNED_STACK" Bundle.steD A s s.heap) (hN : vx_Zq Bundle.tN "SUPPRESSED_SENTINEL" Bundle.listD A s s.heap) (hS : va_S A s.heap H locs) (hsize : ls.size = c.maxLocals)
    (d0 : decode cc pc = .ok (.new ik, 3)) (d3 : decode cc (pc + 3) = .ok (.dup, 1)) (d4 : decode cc (pc + 4) = .ok (.ldc_w is, 3)) (d6 : decode cc (pc + 7) = .ok (.invokespecial ic, 3)) (d9 : decode cc (pc + 10) = .ok (.athrow, 1))
    (hout : ∀ x ∈ c.exceptionTable.toList, covers x (pc + 10) = false)
    (hRframes : names.length + 3 < R.frames) (hRlocals : (rest.map fun v => v.category).sum + (13 * (names.length + 1) + 43) ≤ R.locals) (hRcells : cells + 1 ≤ R.cells) (hRslots : slots + 6 ≤ R.slots) (hlocks : meth.locks = false)
    (hx : ∀ t : State, s.vm.Alike t.vm → t.heap.size = H.size + 1 → (∀ q : Nat, q < H.size → t.heap[q]? = H[q]?) → XC cls s t)
    (hf : ∀ z ∈ locs, free z.base) (hc : cells + 1 ≤ mc) (hs : slots + 6 ≤ ms) :
    W p l e R s m args below meth c H locs cells slots (vx_MQ below Qc XC args s mc ms free) (F0 m pc ls rest) := by
  intro T hT X
  have htr : e.platform.stackTraces = false := (show e.platform.stackTraces = l.stackTraces by rw [X.admits.platform]).trans hl
  have Y := vx_rebase X (R' := { frames := R.frames, locals := R.locals, cells := 1, slots := 6 }) (Nat.le_refl _) (Nat.le_refl _) hRcells hRslots
  obtain ⟨s', hA⟩ : ∃ z, z = (T.setVm s.vm).setFrames (.invoking m args :: below) := ⟨_, rfl⟩
  rw [← hA] at Y
  have hvm : s'.vm = s.vm := by rw [hA]; rfl
  have hhp : s'.heap = H := by rw [hA]; exact hT
  have hW0 : s.WarmedH s'.vm := by rw [hvm]; exact State.WarmedH.refl s
  have hat' : ∀ w ∈ nx_at own ic cls ix rx names, w.before args s' = true := fun w hw => vx_ot_at hW0 hvm.symm (hgood w (List.mem_cons_of_mem _ (List.mem_cons_of_mem _ hw))) (hat w hw)
  have hk' : (Cond.classLink own ik cls).before args s' = true := vx_ot_at hW0 hvm.symm (hgood _ List.mem_cons_self) hk
  have hini' : (Cond.initialized cls).before args s' = true := vx_ot_at hW0 hvm.symm (hgood _ (List.mem_cons_of_mem _ List.mem_cons_self)) hini
  have hU' : vx_Zq Bundle.tN "UNASSIGNED_STACK" Bundle.steD A s' s'.heap := by rw [hhp]; exact vx_Zq.moved hW0.alike (hU.kept hS.2.1)
  have hN' : vx_Zq Bundle.tN "SUPPRESSED_SENTINEL" Bundle.listD A s' s'.heap := by rw [hhp]; exact vx_Zq.moved hW0.alike (hN.kept hS.2.1)
  have h : ∀ w ∈ Bundle.ownAtomsX own ic cls ix rx names, w.before args s' = true := vx_own hat' (vx_isRefq hU'.1) (vx_isRefq hN'.1) hU'.2.word hN'.2.word
  have hown' : s'.vm.findClass own = some m.cls := by rw [hvm]; exact hown
  have hins : (Cond.instantiable cls 6).before args s' = true := h _ (by simp [Bundle.ownAtomsX])
  obtain ⟨vm₁, cX, kX, hfX, hkX, -, -, X₁, st1⟩ := Y.newCold hexec (own := own) (C := cls) (index := ik) (n := 6) hown' hk' hins hini'
    (g := F0 m pc ls rest) rfl (by rw [hb]; exact d0) (Nat.le_refl _) (Nat.le_refl _)
  generalize hT1 : (T.setVm vm₁).pushCell { cls := cX, slots := kX.instanceTypes.map defaultValue, vm := .none } = T1 at X₁ st1
  have hcat : (Value.ref T.heap.size).category = 1 := rfl
  have hcellA : T1.heap[T.heap.size]? = some (freshCell cX kX) := by rw [← hT1]; exact State.heap_pushCell_size _ _
  have d3' : decode c.code (pc + 3) = .ok (.dup, 1) := by rw [hb]; exact d3
  have d4' : decode c.code (pc + 4) = .ok (.ldc_w is, 3) := by rw [hb]; exact d4
  have hstr' : vk_R own is text sa s' := vk_R.warm hW0 hstr
  obtain ⟨U, hsteps, hrun, hend, hW, hsame, ce, hce, hO, hOv⟩ := nx_ctor X₁ hexec htr (own := own) (cls := cls) (names := names) (ic := ic) x0 x1 x2 x5 hown' hcls hnames h hfX hkX hcellA (by rw [hhp, hT]; exact Nat.le_refl _) rfl (msg := .ref sa) rfl
    (g := { method := m, pc := pc + 7, locals := ls, stack := .ref sa :: .ref T.heap.size :: .ref T.heap.size :: rest, locked := none }) rfl hsize rfl rfl (rest := rest) rfl
    (by rw [hb]; exact d6) (by rw [hb]; exact d9) hout hRframes (by simp only [List.map_cons, List.sum_cons, hcat]; omega) hlocks
  obtain ⟨f1, f2⟩ := vx_frame hsame
  rw [hhp] at f1 f2
  have hsz9 : U.heap.size = H.size + 1 := by
    have q1 := hsame.2.2.1
    have q2 : T.heap.size < U.heap.size := (Array.getElem?_eq_some_iff.mp hce).1
    rw [hhp] at q1
    rw [hT] at q2
    have q3 : U.heap.size ≤ H.size + (0 + 1) := q1
    omega
  have hWs : s.WarmedH U.vm := State.WarmedH.trans hW0 hW
  have hcl : s.vm.findClass cls = some ce.cls := by
    have h9 := hO
    rw [hvm] at h9
    exact h9
  have hall : s.sameButNew ({ U with vm := s.vm } : State) locs mc ms := by
    subst hA
    obtain ⟨e1, e2⟩ := hsame
    rw [State.setFrames_setFrames] at e1
    have h2 : (T.setVm s.vm).sameButNew ({ U with vm := s.vm } : State) [] (0 + 1) (0 + 6) := ⟨e1, e2⟩
    have h3 := X.same.trans h2
    rw [List.append_nil] at h3
    exact h3.mono hc hs
  refine ⟨U, ?_, .threw T.heap.size, hrun, hend, Or.inr ⟨T.heap.size, rfl, cls, ce, locs, hx U hWs.alike hsz9 (fun q hq => f2 q hq (fun z hz => nomatch hz)), hce, hOv, hcl, hWs, hall, hf⟩⟩
  refine st1 _ ?_
  show Steps p.tables e below (T1.setTop { method := m, pc := pc + 3, locals := ls, stack := .ref T.heap.size :: rest, locked := none }) _
  jvm_step X₁.here [X₁.here.top, hexec, d3', Value.category]
  exact X₁.ldcStringW hexec (own := own) (text := text) (index := is) (a := sa) hown' hstr'.1 hstr'.2
    (g := { method := m, pc := pc + 4, locals := ls, stack := .ref T.heap.size :: .ref T.heap.size :: rest, locked := none }) rfl d4' _ hsteps
theorem ok_thrN {α : Type} {Γ : Gam} {y : Mth} {d : Nat} {rvx : α → Option Value} {pc : Nat} {lv : List (Nat × Value)} {st : List Value} (hG : GX Γ) {ik is ic : Nat} {text : String} (hy : y.1.cls = "GrainPit") (hcode : Cond.code y.1 y.2.1 y.2.2.1 y.2.2.2 ∈ lw_g)
    (w1 : Cond.classLink "GrainPit" ik NSE ∈ lw_g) (w2 : Cond.initialized NSE ∈ lw_g) (hstr : ∀ U, XE Γ U → ∃ a, vk_R "GrainPit" is text a U) (h1 : ∀ w ∈ (nx_at "GrainPit" ic NSE 13 prog_33_method_4_code NSN).filter goodWord, w ∈ lw_g) (h2 : ∀ w ∈ (nx_at "GrainPit" ic NSE 13 prog_33_method_4_code NSN).filter (fun w => !goodWord w), w ∈ lw_nn)
    (hgood : ∀ w ∈ Cond.classLink "GrainPit" ik NSE :: Cond.initialized NSE :: nx_at "GrainPit" ic NSE 13 prog_33_method_4_code NSN, vx_ot w = true) (hdep : 6 ≤ d) (hst : st.length ≤ 10)
    (d0 : decode y.2.1 pc = .ok (.new ik, 3)) (d3 : decode y.2.1 (pc + 3) = .ok (.dup, 1)) (d4 : decode y.2.1 (pc + 4) = .ok (.ldc is, 2)) (d6 : decode y.2.1 (pc + 6) = .ok (.invokespecial ic, 3)) (d9 : decode y.2.1 (pc + 9) = .ok (.athrow, 1)) : Ok Γ y d (qx Γ rvx) pc lv st thr := by
  intro μ x μ' h
  cases h
  refine ⟨⟨Nat.le_succ _, Nat.le_add_right _ _⟩, ?_⟩
  intro p e s m args below meth c x0 s0 H locs ls hc g1 g2 hS hD hl
  have hts := hc.2.2.2.2.2.1
  have hXE := hG.2 s hc.2.2.2.2.2.2.2.2.1.2.2.2.2.2.2.2
  obtain ⟨sa, hsa⟩ := hstr s hXE
  have htab := hc.2.2.2.2.2.2.2.2.2.2.2.1 hcode
  have hz := cat_sum st
  have m1 : mX (nE μ) = mX μ + 1 := rfl
  have m2 : mS (nE μ) = mS μ + 6 := rfl
  have hat : ∀ w ∈ nx_at "GrainPit" ic NSE 13 prog_33_method_4_code NSN, w.before args s = true := fun w hw => by
    by_cases hg : goodWord w = true
    · exact hts _ (h1 w (List.mem_filter.mpr ⟨hw, hg⟩))
    · have hn := h2 w (List.mem_filter.mpr ⟨hw, by simp [hg]⟩)
      exact nn_use (List.mem_filter.mp hn).2 (hc.2.2.2.2.2.2.2.2.1.2.1 w hn)
  refine nx_throw (A := fun q => gB Γ ≤ q) (own := "GrainPit") (names := NSN) hc.1 hc.2.1 hG.1 nx_0 nx_1 nx_2 nx_5 (by rw [← hy]; exact hc.2.2.2.2.1) (by decide) (by decide) (hts _ w1) (hts _ w2) hsa hat hgood hXE.1 hXE.2.1 hS (by rw [hl.1, hc.2.2.2.1]) d0 d3 d4 d6 d9 (by rw [htab]; exact fun x hx => nomatch hx) (by show 2 + 3 < d; omega) (by show _ + (13 * (2 + 1) + 43) ≤ 64 * d; omega) (by show _ ≤ mX (nE μ) - x0; rw [m1]; omega) (by show _ ≤ mS (nE μ) - s0; rw [m2]; omega) hc.2.2.2.2.2.2.1 ?_ (fun q hq => hS.2.2 q hq) (by rw [m1]; omega) (by rw [m2]; omega)
  intro t hal hsz hold
  refine ⟨rfl, rfl, wd_nE hD hsz hold, ?_⟩
  exact ⟨Nat.le_trans hS.1 (by omega), fun q hq1 hq2 => (hold q (Nat.lt_of_lt_of_le hq1 hS.1)).trans (hS.2.1 q hq1 hq2)⟩
theorem ok_thrW {α : Type} {Γ : Gam} {y : Mth} {d : Nat} {rvx : α → Option Value} {pc : Nat} {lv : List (Nat × Value)} {st : List Value} (hG : GX Γ) {ik is ic : Nat} {text : String} (hy : y.1.cls = "GrainPit") (hcode : Cond.code y.1 y.2.1 y.2.2.1 y.2.2.2 ∈ lw_g)
    (w1 : Cond.classLink "GrainPit" ik NSE ∈ lw_g) (w2 : Cond.initialized NSE ∈ lw_g) (hstr : ∀ U, XE Γ U → ∃ a, vk_R "GrainPit" is text a U) (h1 : ∀ w ∈ (nx_at "GrainPit" ic NSE 13 prog_33_method_4_code NSN).filter goodWord, w ∈ lw_g) (h2 : ∀ w ∈ (nx_at "GrainPit" ic NSE 13 prog_33_method_4_code NSN).filter (fun w => !goodWord w), w ∈ lw_nn)
    (hgood : ∀ w ∈ Cond.classLink "GrainPit" ik NSE :: Cond.initialized NSE :: nx_at "GrainPit" ic NSE 13 prog_33_method_4_code NSN, vx_ot w = true) (hdep : 6 ≤ d) (hst : st.length ≤ 10)
    (d0 : decode y.2.1 pc = .ok (.new ik, 3)) (d3 : decode y.2.1 (pc + 3) = .ok (.dup, 1)) (d4 : decode y.2.1 (pc + 4) = .ok (.ldc_w is, 3)) (d6 : decode y.2.1 (pc + 7) = .ok (.invokespecial ic, 3)) (d9 : decode y.2.1 (pc + 10) = .ok (.athrow, 1)) : Ok Γ y d (qx Γ rvx) pc lv st thr := by
  intro μ x μ' h
  cases h
  refine ⟨⟨Nat.le_succ _, Nat.le_add_right _ _⟩, ?_⟩
  intro p e s m args below meth c x0 s0 H locs ls hc g1 g2 hS hD hl
  have hts := hc.2.2.2.2.2.1
  have hXE := hG.2 s hc.2.2.2.2.2.2.2.2.1.2.2.2.2.2.2.2
  obtain ⟨sa, hsa⟩ := hstr s hXE
  have htab := hc.2.2.2.2.2.2.2.2.2.2.2.1 hcode
  have hz := cat_sum st
  have m1 : mX (nE μ) = mX μ + 1 := rfl
  have m2 : mS (nE μ) = mS μ + 6 := rfl
  have hat : ∀ w ∈ nx_at "GrainPit" ic NSE 13 prog_33_method_4_code NSN, w.before args s = true := fun w hw => by
    by_cases hg : goodWord w = true
    · exact hts _ (h1 w (List.mem_filter.mpr ⟨hw, hg⟩))
    · have hn := h2 w (List.mem_filter.mpr ⟨hw, by simp [hg]⟩)
      exact nn_use (List.mem_filter.mp hn).2 (hc.2.2.2.2.2.2.2.2.1.2.1 w hn)
  refine nx_throwW (A := fun q => gB Γ ≤ q) (own := "GrainPit") (names := NSN) hc.1 hc.2.1 hG.1 nx_0 nx_1 nx_2 nx_5 (by rw [← hy]; exact hc.2.2.2.2.1) (by decide) (by decide) (hts _ w1) (hts _ w2) hsa hat hgood hXE.1 hXE.2.1 hS (by rw [hl.1, hc.2.2.2.1]) d0 d3 d4 d6 d9 (by rw [htab]; exact fun x hx => nomatch hx) (by show 2 + 3 < d; omega) (by show _ + (13 * (2 + 1) + 43) ≤ 64 * d; omega) (by show _ ≤ mX (nE μ) - x0; rw [m1]; omega) (by show _ ≤ mS (nE μ) - s0; rw [m2]; omega) hc.2.2.2.2.2.2.1 ?_ (fun q hq => hS.2.2 q hq) (by rw [m1]; omega) (by rw [m2]; omega)
  intro t hal hsz hold
  refine ⟨rfl, rfl, wd_nE hD hsz hold, ?_⟩
  exact ⟨Nat.le_trans hS.1 (by omega), fun q hq1 hq2 => (hold q (Nat.lt_of_lt_of_le hq1 hS.1)).trans (hS.2.1 q hq1 hq2)⟩
theorem ok_callXI {α : Type} {Γ : Gam} {y : Mth} {d : Nat} {rv : Rv α} {pc : Nat} {lv : List (Nat × Value)} {st : List Value} {F : Int32 → M α} {E : M α} {G : Nat → M (Option Int32)} {yc : Mth} {dc : Nat} {r : Option Nat} {idx cn hpc s0' e0' ct : Nat} {C : String} {T : u_T} {N : Nat} (As rest : List Value) (hC : ∀ b : Nat, CtX Γ yc dc vI (va_rf (some b) :: As) (G b)) (hcl : vcl[cn]? = some (C, T, N)) (hy : CY yc As.length)
    (w1 : Cond.methodLink y.1.cls idx yc.1 ∈ lw_g) (w2 : Cond.instanceMethod yc.1 ∈ lw_g) (w3 : Cond.selects C yc.1 yc.1 ∈ lw_g) (hdep : dc + 1 ≤ d) (hrest : rest.length ≤ 4) (hst : st = As.reverse ++ va_rf r :: rest) (hd : decode y.2.1 pc = .ok (.invokevirtual idx, 3))
    (w4 : Cond.codeWith y.1 y.2.1 y.2.2.1 y.2.2.2 [(s0', e0', hpc, ct)] ∈ lw_g) (hcov : s0' ≤ pc ∧ pc < e0') (hct : ct ≠ 0) (w5 : Cond.classLink y.1.cls ct NSE ∈ lw_g) (w6 : Cond.castable NSE NSE ∈ lw_nn)
    (kk : ∀ x : Int32, Ok Γ y d rv (pc + 3) lv (.int x :: rest) (F x)) (kh : ∀ q : Option Nat, Ok Γ y d rv hpc lv [va_rf q] E) : Ok Γ y d rv pc lv st (bn (pRc cn r) fun b => bn (G b) fun o => ox o F E) := by
  refine cast (congrArg (Ok Γ y d rv pc lv st) ?_) (ok_callX As rest hC hcl hy w1 w2 w3 hdep hrest hst hd w4 hcov hct w5 w6 kk kh)
  refine congrArg (bn (pRc cn r)) (funext fun b => congrArg (bn (G b)) (funext fun o => ?_))
  cases o <;> rfl
theorem ok_callXL {α : Type} {Γ : Gam} {y : Mth} {d : Nat} {rv : Rv α} {pc : Nat} {lv : List (Nat × Value)} {st : List Value} {F : Int64 → M α} {E : M α} {G : Nat → M (Option Int64)} {yc : Mth} {dc : Nat} {r : Option Nat} {idx cn hpc s0' e0' ct : Nat} {C : String} {T : u_T} {N : Nat} (As rest : List Value) (hC : ∀ b : Nat, CtX Γ yc dc vL (va_rf (some b) :: As) (G b)) (hcl : vcl[cn]? = some (C, T, N)) (hy : CY yc As.length)
    (w1 : Cond.methodLink y.1.cls idx yc.1 ∈ lw_g) (w2 : Cond.instanceMethod yc.1 ∈ lw_g) (w3 : Cond.selects C yc.1 yc.1 ∈ lw_g) (hdep : dc + 1 ≤ d) (hrest : rest.length ≤ 4) (hst : st = As.reverse ++ va_rf r :: rest) (hd : decode y.2.1 pc = .ok (.invokevirtual idx, 3))
    (w4 : Cond.codeWith y.1 y.2.1 y.2.2.1 y.2.2.2 [(s0', e0', hpc, ct)] ∈ lw_g) (hcov : s0' ≤ pc ∧ pc < e0') (hct : ct ≠ 0) (w5 : Cond.classLink y.1.cls ct NSE ∈ lw_g) (w6 : Cond.castable NSE NSE ∈ lw_nn)
    (kk : ∀ x : Int64, Ok Γ y d rv (pc + 3) lv (.long x :: rest) (F x)) (kh : ∀ q : Option Nat, Ok Γ y d rv hpc lv [va_rf q] E) : Ok Γ y d rv pc lv st (bn (pRc cn r) fun b => bn (G b) fun o => ox o F E) := by
  refine cast (congrArg (Ok Γ y d rv pc lv st) ?_) (ok_callX As rest hC hcl hy w1 w2 w3 hdep hrest hst hd w4 hcov hct w5 w6 kk kh)
  refine congrArg (bn (pRc cn r)) (funext fun b => congrArg (bn (G b)) (funext fun o => ?_))
  cases o <;> rfl
abbrev mX11_equity : Mth := (yX11_equity, cX11_equity, 8, (some .long : Option FieldType))
theorem cy_X11_equity : CY mX11_equity 3 := ⟨gin 1194 (by decide +kernel) rfl, gin 88 (by decide +kernel) rfl, by decide +kernel, by decide⟩
abbrev mX11_money : Mth := (yX11_money, cX11_money, 4, (some .long : Option FieldType))
theorem cy_X11_freeReceiptsOf : CY mX11_freeReceiptsOf 1 := ⟨gin 1179 (by decide +kernel) rfl, gin 88 (by decide +kernel) rfl, by decide +kernel, by decide⟩
theorem ml_RX11_235 : Cond.methodLink RX11 235 yX11_freeReceiptsOf ∈ lw_g := gin 1176 (by decide +kernel) rfl
theorem im_X11_freeReceiptsOf : Cond.instanceMethod yX11_freeReceiptsOf ∈ lw_g := gin 1178 (by decide +kernel) rfl
theorem se_X11_freeReceiptsOf : Cond.selects RX11 yX11_freeReceiptsOf yX11_freeReceiptsOf ∈ lw_g := gin 54 (by decide +kernel) rfl
theorem cy_X11_money : CY mX11_money 2 := ⟨gin 1174 (by decide +kernel) rfl, gin 88 (by decide +kernel) rfl, by decide +kernel, by decide⟩
abbrev mX11_pay : Mth := (yX11_pay, cX11_pay, 4, (some .long : Option FieldType))
theorem ct_RX11_100 : Cond.constant RX11 100 (-1000000) ∈ lw_g := gin 1165 (by decide +kernel) rfl
theorem ct_RX11_101 : Cond.constant RX11 101 (1000000) ∈ lw_g := gin 1166 (by decide +kernel) rfl
theorem cy_X11_pay : CY mX11_pay 2 := ⟨gin 1164 (by decide +kernel) rfl, gin 88 (by decide +kernel) rfl, by decide +kernel, by decide⟩
abbrev mX11_position : Mth := (yX11_position, cX11_position, 4, (some .int : Option FieldType))
theorem cy_X11_position : CY mX11_position 2 := ⟨gin 1186 (by decide +kernel) rfl, gin 88 (by decide +kernel) rfl, by decide +kernel, by decide⟩
abbrev mX11_rule : Mth := (yX11_rule, cX11_rule, 8, (some .int : Option FieldType))
theorem cy_X11_rule : CY mX11_rule 7 := ⟨gin 1092 (by decide +kernel) rfl, gin 88 (by decide +kernel) rfl, by decide +kernel, by decide⟩
abbrev mL_rule : Mth := (yL_rule, cL_rule, 10, (some .int : Option FieldType))
theorem cw_L_rule : Cond.codeWith mL_rule.1 mL_rule.2.1 mL_rule.2.2.1 mL_rule.2.2.2 [(0, 20, 23, 13)] ∈ lw_g := gin 1087 (by decide +kernel) rfl
theorem ce_RL_13 : Cond.classLink RL 13 NSE ∈ lw_g := gin 1088 (by decide +kernel) rfl
theorem ce_nn : Cond.castable NSE NSE ∈ lw_nn := nin 1095 (by decide +kernel) rfl
theorem ml_RL_7 : Cond.methodLink RL 7 yX11_rule ∈ lw_g := gin 1089 (by decide +kernel) rfl
theorem im_X11_rule : Cond.instanceMethod yX11_rule ∈ lw_g := gin 1090 (by decide +kernel) rfl
theorem se_X11_rule : Cond.selects RX11 yX11_rule yX11_rule ∈ lw_g := gin 1091 (by decide +kernel) rfl
abbrev mL_pay : Mth := (yL_pay, cL_pay, 5, (some .int : Option FieldType))
theorem cw_L_pay : Cond.codeWith mL_pay.1 mL_pay.2.1 mL_pay.2.2.1 mL_pay.2.2.2 [(0, 9, 12, 13)] ∈ lw_g := gin 1160 (by decide +kernel) rfl
theorem ml_RL_15 : Cond.methodLink RL 15 yX11_pay ∈ lw_g := gin 1161 (by decide +kernel) rfl
theorem im_X11_pay : Cond.instanceMethod yX11_pay ∈ lw_g := gin 1162 (by decide +kernel) rfl
theorem se_X11_pay : Cond.selects RX11 yX11_pay yX11_pay ∈ lw_g := gin 1163 (by decide +kernel) rfl
abbrev mL_money : Mth := (yL_money, cL_money, 5, (some .int : Option FieldType))
theorem cw_L_money : Cond.codeWith mL_money.1 mL_money.2.1 mL_money.2.2.1 mL_money.2.2.2 [(0, 9, 12, 13)] ∈ lw_g := gin 1170 (by decide +kernel) rfl
theorem ml_RL_19 : Cond.methodLink RL 19 yX11_money ∈ lw_g := gin 1171 (by decide +kernel) rfl
theorem im_X11_money : Cond.instanceMethod yX11_money ∈ lw_g := gin 1172 (by decide +kernel) rfl
theorem se_X11_money : Cond.selects RX11 yX11_money yX11_money ∈ lw_g := gin 1173 (by decide +kernel) rfl
abbrev mL_position : Mth := (yL_position, cL_position, 5, (some .int : Option FieldType))
theorem cw_L_position : Cond.codeWith mL_position.1 mL_position.2.1 mL_position.2.2.1 mL_position.2.2.2 [(0, 10, 13, 13)] ∈ lw_g := gin 1182 (by decide +kernel) rfl
theorem ml_RL_22 : Cond.methodLink RL 22 yX11_position ∈ lw_g := gin 1183 (by decide +kernel) rfl
theorem im_X11_position : Cond.instanceMethod yX11_position ∈ lw_g := gin 1184 (by decide +kernel) rfl
theorem se_X11_position : Cond.selects RX11 yX11_position yX11_position ∈ lw_g := gin 1185 (by decide +kernel) rfl
abbrev mL_equity : Mth := (yL_equity, cL_equity, 6, (some .int : Option FieldType))
theorem cw_L_equity : Cond.codeWith mL_equity.1 mL_equity.2.1 mL_equity.2.2.1 mL_equity.2.2.2 [(0, 11, 14, 13)] ∈ lw_g := gin 1190 (by decide +kernel) rfl
theorem ml_RL_26 : Cond.methodLink RL 26 yX11_equity ∈ lw_g := gin 1191 (by decide +kernel) rfl
theorem im_X11_equity : Cond.instanceMethod yX11_equity ∈ lw_g := gin 1192 (by decide +kernel) rfl
theorem se_X11_equity : Cond.selects RX11 yX11_equity yX11_equity ∈ lw_g := gin 1193 (by decide +kernel) rfl
def F_X11_equity_L17  : M (Option Int64) := thr
set_option maxRecDepth 100000 in
theorem O_X11_equity_L17 (Γ : Gam) (hG : GX Γ)  : Ok Γ mX11_equity 6 (qx Γ vL) 17 [] [] (F_X11_equity_L17 ) := by
  unfold F_X11_equity_L17
  exact ok_thrW hG rfl cy_X11_equity.1 tx_w1 tx_w2 (fun U h => h.2.2.2.2.2.2) tx_h1 tx_h2 tx_good (by decide) (Nat.le_of_ble_eq_true rfl) (dd TX11_equity_0 9 rfl) (dd TX11_equity_0 10 rfl) (dd TX11_equity_0 11 rfl) (dd TX11_equity_0 12 rfl) (dd TX11_equity_0 13 rfl)
def F_X11_equity_L65 : Nat → Nat → Int32 → Int32 → Int32 → Option Nat → Int64 → Int32 → M (Option Int64)
  | 0 => fun _ _ _ _ _ _ _ => fl
  | n + 1 => fun this x1 x2 x3 x4 x5 x7 => if (6 : Int32) ≤ x7 then rt (some x5) else bn (gP 0 1 x4) fun v12 => bn (lI 88 v12 ((x1 * (6 : Int32)) + x7)) fun v13 => bn (pRc 11 (some this)) fun b14 => bn (F_X11_priceOn b14 x7 x2 x3) fun v15 => F_X11_equity_L65 n this x1 x2 x3 x4 (x5 + (v13.toInt64 * v15.toInt64)) (x7 + (1 : Int32))
set_option maxRecDepth 100000 in
theorem O_X11_equity_L65 (Γ : Gam) (hG : GX Γ) (n : Nat) : ∀ (this : Nat) (x1 : Int32) (x2 : Int32) (x3 : Int32) (x4 : Option Nat) (x5 : Int64) (x7 : Int32), Ok Γ mX11_equity 6 (qx Γ vL) 65 [(0, va_rf (some this)), (1, .int x1), (2, .int x2), (3, .int x3), (4, va_rf x4), (5, .long x5), (7, .int x7)] [] (F_X11_equity_L65 n this x1 x2 x3 x4 x5 x7) := by
  induction n with
  | zero => intro this x1 x2 x3 x4 x5 x7; exact ok_fl
  | succ n ih =>
    intro this x1 x2 x3 x4 x5 x7
    rw [F_X11_equity_L65]
    refine ok_iload (dd TX11_equity_0 34 rfl) 6 rfl ?_
    refine ok_bipush (v := (6 : Int32)) (dd TX11_equity_0 35 rfl) (by decide) ?_
    refine ok_icmp_ge (tgt := 107) (dd TX11_equity_0 36 rfl) (by decide) ?_ ?_
    · refine ok_lload (dd TX11_equity_1 18 rfl) 5 rfl ?_
      exact ok_lreturnX (dd TX11_equity_1 19 rfl) rfl
    · refine ok_lload (dd TX11_equity_0 37 rfl) 5 rfl ?_
      refine ok_aload (dd TX11_equity_0 38 rfl) 4 rfl ?_
      refine ok_gP fl_RX11_352 rfl (dd TX11_equity_0 39 rfl) (fun v12 => ?_)
      refine ok_iload_n (dd TX11_equity_1 0 rfl) 1 rfl ?_
      refine ok_bipush (v := (6 : Int32)) (dd TX11_equity_1 1 rfl) (by decide) ?_
      refine ok_imul (dd TX11_equity_1 2 rfl) ?_
      refine ok_iload (dd TX11_equity_1 3 rfl) 6 rfl ?_
      refine ok_iadd (dd TX11_equity_1 4 rfl) ?_
      refine ok_lI (kd := 88) (by decide) rfl (dd TX11_equity_1 5 rfl) (fun v13 => ?_)
      refine ok_i2l (dd TX11_equity_1 6 rfl) ?_
      refine ok_aload_n (dd TX11_equity_1 7 rfl) 0 rfl ?_
      refine ok_iload (dd TX11_equity_1 8 rfl) 6 rfl ?_
      refine ok_iload_n (dd TX11_equity_1 9 rfl) 2 rfl ?_
      refine ok_iload_n (dd TX11_equity_1 10 rfl) 3 rfl ?_
      refine ok_callVI (cn := 11) [.int x7, .int x2, .int x3] [.long v13.toInt64, .long x5] (fun b14 => C_X11_priceOn Γ b14 x7 x2 x3) rfl cy_X11_priceOn ml_RX11_342 im_X11_priceOn se_X11_priceOn (by decide) (Nat.le_of_ble_eq_true rfl) rfl (dd TX11_equity_1 11 rfl) (fun v15 => ?_)
      refine ok_i2l (dd TX11_equity_1 12 rfl) ?_
      refine ok_lmul (dd TX11_equity_1 13 rfl) ?_
      refine ok_ladd (dd TX11_equity_1 14 rfl) ?_
      refine ok_lstore (lv' := [(5, .long (x5 + (v13.toInt64 * v15.toInt64))), (0, va_rf (some this)), (1, .int x1), (2, .int x2), (3, .int x3), (4, va_rf x4), (7, .int x7)]) (dd TX11_equity_1 15 rfl) (by decide) (by first | rfl | (simp only [List.filter, cat_rf]; rfl)) ?_
      refine ok_iinc (lv' := [(7, .int (x7 + (1 : Int32))), (5, .long (x5 + (v13.toInt64 * v15.toInt64))), (0, va_rf (some this)), (1, .int x1), (2, .int x2), (3, .int x3), (4, va_rf x4)]) (dd TX11_equity_1 16 rfl) 6 rfl (congrArg (fun q : Int32 => x7 + q) (show Int32.ofInt (1) = (1 : Int32) from by decide)) (by decide) (by first | rfl | (simp only [List.filter, cat_rf]; rfl)) ?_
      refine ok_goto (tgt := 65) (dd TX11_equity_1 17 rfl) (by decide) ?_
      refine ok_sub [2, 3, 4, 5, 6, 1, 0] rfl ?_
      exact ih this x1 x2 x3 x4 (x5 + (v13.toInt64 * v15.toInt64)) (x7 + (1 : Int32))
def F_X11_equity (this : Nat) (p0 : Int32) (p1 : Int32) (p2 : Int32) : M (Option Int64) := bn (pRc 11 (some this)) fun b1 => bn (F_X11_memberOf b1 p0) fun v2 => if v2 = none then F_X11_equity_L17  else bn (pRc 11 (some this)) fun b3 => bn (F_X11_isKnown b3 p1 p2) fun v4 => if ¬ v4 = 0 then bn (gP 11 7 (some this)) fun v5 => bn (pRc 13 v5) fun b6 => bn (F_Jx4a65c_get_915e3 b6 p1) fun v7 => bn (cst 0 v7) fun _ => bn (gP 0 2 v7) fun v8 => bn (len v8) fun v9 => if p0 < v9 then bn (gP 0 2 v7) fun v10 => bn (lL 97 v10 p0) fun v11 => F_X11_equity_L65 FU this p0 p1 p2 v7 v11 (0 : Int32) else rt (some (0 : Int64)) else F_X11_equity_L17 
set_option maxRecDepth 100000 in
theorem C_X11_equity (Γ : Gam) (hG : GX Γ) (this : Nat) (p0 : Int32) (p1 : Int32) (p2 : Int32) : CtX Γ mX11_equity 6 vL [va_rf (some this), .int p0, .int p1, .int p2] (F_X11_equity this p0 p1 p2) := by
  refine ct_inX (lv := [(0, va_rf (some this)), (1, .int p0), (2, .int p1), (3, .int p2)]) (by decide) (by first | rfl | (simp only [lv_args, cat_rf]; rfl)) (by first | exact Nat.le_of_ble_eq_true rfl | (rw [lg_len]; simp only [List.map_cons, List.map_nil, cat_rf]; exact Nat.le_of_ble_eq_true rfl)) ?_
  unfold F_X11_equity
  refine ok_aload_n (dd TX11_equity_0 0 rfl) 0 rfl ?_
  refine ok_iload_n (dd TX11_equity_0 1 rfl) 1 rfl ?_
  refine ok_callVR (cn := 11) [.int p0] [] (fun b1 => C_X11_memberOf Γ b1 p0) rfl cy_X11_memberOf ml_RX11_96 im_X11_memberOf se_X11_memberOf (by decide) (Nat.le_of_ble_eq_true rfl) rfl (dd TX11_equity_0 2 rfl) (fun v2 => ?_)
  refine ok_ifnull (tgt := 17) (dd TX11_equity_0 3 rfl) (by decide) ?_ ?_
  · refine ok_sub [] rfl ?_
    exact O_X11_equity_L17 Γ hG 
  · refine ok_aload_n (dd TX11_equity_0 4 rfl) 0 rfl ?_
    refine ok_iload_n (dd TX11_equity_0 5 rfl) 2 rfl ?_
    refine ok_iload_n (dd TX11_equity_0 6 rfl) 3 rfl ?_
    refine ok_callVI (cn := 11) [.int p1, .int p2] [] (fun b3 => C_X11_isKnown Γ b3 p1 p2) rfl cy_X11_isKnown ml_RX11_338 im_X11_isKnown se_X11_isKnown (by decide) (Nat.le_of_ble_eq_true rfl) rfl (dd TX11_equity_0 7 rfl) (fun v4 => ?_)
    refine ok_if_ne (tgt := 28) (dd TX11_equity_0 8 rfl) (by decide) ?_ ?_
    · refine ok_aload_n (dd TX11_equity_0 14 rfl) 0 rfl ?_
      refine ok_gP fl_RX11_46 rfl (dd TX11_equity_0 15 rfl) (fun v5 => ?_)
      refine ok_iload_n (dd TX11_equity_0 16 rfl) 2 rfl ?_
      refine ok_callVR (cn := 13) [.int p1] [] (fun b6 => C_Jx4a65c_get_915e3 Γ b6 p1) rfl cy_Jx4a65c_get_915e3 ml_RX11_139 im_Jx4a65c_get_915e3 se_Jx4a65c_get_915e3 (by decide) (Nat.le_of_ble_eq_true rfl) rfl (dd TX11_equity_0 17 rfl) (fun v7 => ?_)
      refine ok_cst (cn := 0) rfl cl_RX11_189 (dd TX11_equity_0 18 rfl) ?_
      refine ok_astore (lv' := [(4, va_rf v7), (0, va_rf (some this)), (1, .int p0), (2, .int p1), (3, .int p2)]) (dd TX11_equity_0 19 rfl) (by decide) (by first | rfl | (simp only [List.filter, cat_rf]; rfl)) ?_
      refine ok_iload_n (dd TX11_equity_0 20 rfl) 2 rfl ?_
      refine ok_aload (dd TX11_equity_0 21 rfl) 0 rfl ?_
      refine ok_gP fl_RX11_348 rfl (dd TX11_equity_0 22 rfl) (fun v8 => ?_)
      refine ok_len (dd TX11_equity_0 23 rfl) (fun v9 => ?_)
      refine ok_icmp_lt (tgt := 53) (dd TX11_equity_0 24 rfl) (by decide) ?_ ?_
      · refine ok_aload (dd TX11_equity_0 27 rfl) 0 rfl ?_
        refine ok_gP fl_RX11_348 rfl (dd TX11_equity_0 28 rfl) (fun v10 => ?_)
        refine ok_iload_n (dd TX11_equity_0 29 rfl) 2 rfl ?_
        refine ok_lL (kd := 97) (by decide) rfl (dd TX11_equity_0 30 rfl) (fun v11 => ?_)
        refine ok_lstore (lv' := [(5, .long v11), (4, va_rf v7), (0, va_rf (some this)), (1, .int p0), (2, .int p1), (3, .int p2)]) (dd TX11_equity_0 31 rfl) (by decide) (by first | rfl | (simp only [List.filter, cat_rf]; rfl)) ?_
        refine ok_iconst (v := (0 : Int32)) (dd TX11_equity_0 32 rfl) (by decide) ?_
        refine ok_istore (lv' := [(7, .int (0 : Int32)), (5, .long v11), (4, va_rf v7), (0, va_rf (some this)), (1, .int p0), (2, .int p1), (3, .int p2)]) (dd TX11_equity_0 33 rfl) (by decide) (by first | rfl | (simp only [List.filter, cat_rf]; rfl)) ?_
        refine ok_sub [3, 4, 5, 6, 2, 1, 0] rfl ?_
        exact O_X11_equity_L65 Γ hG FU this p0 p1 p2 v7 v11 (0 : Int32)
      · refine ok_lconst (v := (0 : Int64)) (dd TX11_equity_0 25 rfl) (by decide) ?_
        exact ok_lreturnX (dd TX11_equity_0 26 rfl) rfl
    · refine ok_sub [] rfl ?_
      exact O_X11_equity_L17 Γ hG 
def F_X11_money_L20  : M (Option Int64) := thr
set_option maxRecDepth 100000 in
theorem O_X11_money_L20 (Γ : Gam) (hG : GX Γ)  : Ok Γ mX11_money 6 (qx Γ vL) 20 [] [] (F_X11_money_L20 ) := by
  unfold F_X11_money_L20
  exact ok_thrN hG rfl cy_X11_money.1 tx_w1 tx_w2 (fun U h => h.2.2.2.2.1) tx_h1 tx_h2 tx_good (by decide) (Nat.le_of_ble_eq_true rfl) (dd TX11_money_0 11 rfl) (dd TX11_money_0 12 rfl) (dd TX11_money_0 13 rfl) (dd TX11_money_0 14 rfl) (dd TX11_money_0 15 rfl)
def F_X11_money (this : Nat) (p0 : Int32) (p1 : Int32) : M (Option Int64) := bn (pRc 11 (some this)) fun b1 => bn (F_X11_memberOf b1 p0) fun v2 => if v2 = none then F_X11_money_L20  else if p1 < 0 then F_X11_money_L20  else if p1 ≤ (6 : Int32) then swF p1 [((0 : Int32), 68, bn (gLg 1 2 v2) fun v3 => rt (some v3)), ((1 : Int32), 73, bn (pRc 11 (some this)) fun b4 => bn (F_X11_worthOf b4 v2) fun v5 => rt (some v5)), ((2 : Int32), 79, bn (gI 1 3 v2) fun v6 => if v6 = 0 then rt (some (0 : Int64)) else rt (some (1 : Int64))), ((3 : Int32), 92, bn (gI 1 4 v2) fun v7 => if v7 = 0 then rt (some (0 : Int64)) else rt (some (1 : Int64))), ((4 : Int32), 105, bn (pRc 11 (some this)) fun b8 => bn (F_X11_needOf b8 v2 (1 : Int32)) fun v9 => rt (some v9)), ((5 : Int32), 112, bn (pRc 11 (some this)) fun b10 => bn (F_X11_needOf b10 v2 (2 : Int32)) fun v11 => rt (some v11))] (bn (pRc 11 (some this)) fun b12 => bn (F_X11_freeReceiptsOf b12 p0) fun v13 => rt (some v13.toInt64)) else F_X11_money_L20 
set_option maxRecDepth 100000 in
theorem C_X11_money (Γ : Gam) (hG : GX Γ) (this : Nat) (p0 : Int32) (p1 : Int32) : CtX Γ mX11_money 6 vL [va_rf (some this), .int p0, .int p1] (F_X11_money this p0 p1) := by
  refine ct_inX (lv := [(0, va_rf (some this)), (1, .int p0), (2, .int p1)]) (by decide) (by first | rfl | (simp only [lv_args, cat_rf]; rfl)) (by first | exact Nat.le_of_ble_eq_true rfl | (rw [lg_len]; simp only [List.map_cons, List.map_nil, cat_rf]; exact Nat.le_of_ble_eq_true rfl)) ?_
  unfold F_X11_money
  refine ok_aload_n (dd TX11_money_0 0 rfl) 0 rfl ?_
  refine ok_iload_n (dd TX11_money_0 1 rfl) 1 rfl ?_
  refine ok_callVR (cn := 11) [.int p0] [] (fun b1 => C_X11_memberOf Γ b1 p0) rfl cy_X11_memberOf ml_RX11_96 im_X11_memberOf se_X11_memberOf (by decide) (Nat.le_of_ble_eq_true rfl) rfl (dd TX11_money_0 2 rfl) (fun v2 => ?_)
  refine ok_astore_n (lv' := [(3, va_rf v2), (0, va_rf (some this)), (1, .int p0), (2, .int p1)]) (dd TX11_money_0 3 rfl) (by decide) (by first | rfl | (simp only [List.filter, cat_rf]; rfl)) ?_
  refine ok_aload_n (dd TX11_money_0 4 rfl) 0 rfl ?_
  refine ok_ifnull (tgt := 20) (dd TX11_money_0 5 rfl) (by decide) ?_ ?_
  · refine ok_sub [] rfl ?_
    exact O_X11_money_L20 Γ hG 
  · refine ok_iload_n (dd TX11_money_0 6 rfl) 3 rfl ?_
    refine ok_if_lt (tgt := 20) (dd TX11_money_0 7 rfl) (by decide) ?_ ?_
    · refine ok_sub [] rfl ?_
      exact O_X11_money_L20 Γ hG 
    · refine ok_iload_n (dd TX11_money_0 8 rfl) 3 rfl ?_
      refine ok_bipush (v := (6 : Int32)) (dd TX11_money_0 9 rfl) (by decide) ?_
      refine ok_icmp_le (tgt := 30) (dd TX11_money_0 10 rfl) (by decide) ?_ ?_
      · refine ok_iload_n (dd TX11_money_0 16 rfl) 3 rfl ?_
        refine ok_tsw (dt := 119) (dd TX11_money_0 17 rfl) rfl (List.forall_mem_cons.mpr ⟨?_, List.forall_mem_cons.mpr ⟨?_, List.forall_mem_cons.mpr ⟨?_, List.forall_mem_cons.mpr ⟨?_, List.forall_mem_cons.mpr ⟨?_, List.forall_mem_cons.mpr ⟨?_, fun _ h => absurd h List.not_mem_nil⟩⟩⟩⟩⟩⟩) ?_
        · show Ok _ _ _ _ 68 _ _ (bn (gLg 1 2 v2) fun v3 => rt (some v3))
          refine ok_aload_n (dd TX11_money_0 18 rfl) 0 rfl ?_
          refine ok_gL fl_RX11_104 rfl (dd TX11_money_0 19 rfl) (fun v3 => ?_)
          exact ok_lreturnX (dd TX11_money_0 20 rfl) rfl
        · show Ok _ _ _ _ 73 _ _ (bn (pRc 11 (some this)) fun b4 => bn (F_X11_worthOf b4 v2) fun v5 => rt (some v5))
          refine ok_aload_n (dd TX11_money_0 21 rfl) 1 rfl ?_
          refine ok_aload_n (dd TX11_money_0 22 rfl) 0 rfl ?_
          refine ok_callVL (cn := 11) [va_rf v2] [] (fun b4 => C_X11_worthOf Γ b4 v2) rfl cy_X11_worthOf ml_RX11_221 im_X11_worthOf se_X11_worthOf (by decide) (Nat.le_of_ble_eq_true rfl) rfl (dd TX11_money_0 23 rfl) (fun v5 => ?_)
          exact ok_lreturnX (dd TX11_money_0 24 rfl) rfl
        · show Ok _ _ _ _ 79 _ _ (bn (gI 1 3 v2) fun v6 => if v6 = 0 then rt (some (0 : Int64)) else rt (some (1 : Int64)))
          refine ok_aload_n (dd TX11_money_0 25 rfl) 0 rfl ?_
          refine ok_gZ fl_RX11_225 rfl (dd TX11_money_0 26 rfl) (fun v6 => ?_)
          refine ok_if_eq (tgt := 90) (dd TX11_money_0 27 rfl) (by decide) ?_ ?_
          · refine ok_lconst (v := (0 : Int64)) (dd TX11_money_0 30 rfl) (by decide) ?_
            exact ok_lreturnX (dd TX11_money_0 31 rfl) rfl
          · refine ok_lconst (v := (1 : Int64)) (dd TX11_money_0 28 rfl) (by decide) ?_
            refine ok_goto (tgt := 91) (dd TX11_money_0 29 rfl) (by decide) ?_
            exact ok_lreturnX (dd TX11_money_0 31 rfl) rfl
        · show Ok _ _ _ _ 92 _ _ (bn (gI 1 4 v2) fun v7 => if v7 = 0 then rt (some (0 : Int64)) else rt (some (1 : Int64)))
          refine ok_aload_n (dd TX11_money_0 32 rfl) 0 rfl ?_
          refine ok_gZ fl_RX11_228 rfl (dd TX11_money_0 33 rfl) (fun v7 => ?_)
          refine ok_if_eq (tgt := 103) (dd TX11_money_0 34 rfl) (by decide) ?_ ?_
          · refine ok_lconst (v := (0 : Int64)) (dd TX11_money_0 37 rfl) (by decide) ?_
            exact ok_lreturnX (dd TX11_money_0 38 rfl) rfl
          · refine ok_lconst (v := (1 : Int64)) (dd TX11_money_0 35 rfl) (by decide) ?_
            refine ok_goto (tgt := 104) (dd TX11_money_0 36 rfl) (by decide) ?_
            exact ok_lreturnX (dd TX11_money_0 38 rfl) rfl
        · show Ok _ _ _ _ 105 _ _ (bn (pRc 11 (some this)) fun b8 => bn (F_X11_needOf b8 v2 (1 : Int32)) fun v9 => rt (some v9))
          refine ok_aload_n (dd TX11_money_0 39 rfl) 1 rfl ?_
          refine ok_aload_n (dd TX11_money_1 0 rfl) 0 rfl ?_
          refine ok_iconst (v := (1 : Int32)) (dd TX11_money_1 1 rfl) (by decide) ?_
          refine ok_callVL (cn := 11) [va_rf v2, .int (1 : Int32)] [] (fun b8 => C_X11_needOf Γ b8 v2 (1 : Int32)) rfl cy_X11_needOf ml_RX11_231 im_X11_needOf se_X11_needOf (by decide) (Nat.le_of_ble_eq_true rfl) rfl (dd TX11_money_1 2 rfl) (fun v9 => ?_)
          exact ok_lreturnX (dd TX11_money_1 3 rfl) rfl
        · show Ok _ _ _ _ 112 _ _ (bn (pRc 11 (some this)) fun b10 => bn (F_X11_needOf b10 v2 (2 : Int32)) fun v11 => rt (some v11))
          refine ok_aload_n (dd TX11_money_1 4 rfl) 1 rfl ?_
          refine ok_aload_n (dd TX11_money_1 5 rfl) 0 rfl ?_
          refine ok_iconst (v := (2 : Int32)) (dd TX11_money_1 6 rfl) (by decide) ?_
          refine ok_callVL (cn := 11) [va_rf v2, .int (2 : Int32)] [] (fun b10 => C_X11_needOf Γ b10 v2 (2 : Int32)) rfl cy_X11_needOf ml_RX11_231 im_X11_needOf se_X11_needOf (by decide) (Nat.le_of_ble_eq_true rfl) rfl (dd TX11_money_1 7 rfl) (fun v11 => ?_)
          exact ok_lreturnX (dd TX11_money_1 8 rfl) rfl
        · show Ok _ _ _ _ 119 _ _ (bn (pRc 11 (some this)) fun b12 => bn (F_X11_freeReceiptsOf b12 p0) fun v13 => rt (some v13.toInt64))
          refine ok_aload_n (dd TX11_money_1 9 rfl) 1 rfl ?_
          refine ok_iload_n (dd TX11_money_1 10 rfl) 2 rfl ?_
          refine ok_callVI (cn := 11) [.int p0] [] (fun b12 => C_X11_freeReceiptsOf Γ b12 p0) rfl cy_X11_freeReceiptsOf ml_RX11_235 im_X11_freeReceiptsOf se_X11_freeReceiptsOf (by decide) (Nat.le_of_ble_eq_true rfl) rfl (dd TX11_money_1 11 rfl) (fun v13 => ?_)
          refine ok_i2l (dd TX11_money_1 12 rfl) ?_
          exact ok_lreturnX (dd TX11_money_1 13 rfl) rfl
      · refine ok_sub [] rfl ?_
        exact O_X11_money_L20 Γ hG 
def F_X11_pay_L22  : M (Option Int64) := thr
set_option maxRecDepth 100000 in
theorem O_X11_pay_L22 (Γ : Gam) (hG : GX Γ)  : Ok Γ mX11_pay 6 (qx Γ vL) 22 [] [] (F_X11_pay_L22 ) := by
  unfold F_X11_pay_L22
  exact ok_thrN hG rfl cy_X11_pay.1 tx_w1 tx_w2 (fun U h => h.2.2.2.1) tx_h1 tx_h2 tx_good (by decide) (Nat.le_of_ble_eq_true rfl) (dd TX11_pay_0 12 rfl) (dd TX11_pay_0 13 rfl) (dd TX11_pay_0 14 rfl) (dd TX11_pay_0 15 rfl) (dd TX11_pay_0 16 rfl)
def F_X11_pay (this : Nat) (p0 : Int32) (p1 : Int32) : M (Option Int64) := bn (pRc 11 (some this)) fun b1 => bn (F_X11_memberOf b1 p0) fun v2 => if v2 = none then F_X11_pay_L22  else if p1 < (-1000000 : Int32) then F_X11_pay_L22  else if p1 ≤ (1000000 : Int32) then bn (gLg 1 2 v2) fun v3 => bn (wL 1 2 v2 (v3 + p1.toInt64)) fun _ => bn (gLg 1 2 v2) fun v4 => rt (some v4) else F_X11_pay_L22 
set_option maxRecDepth 100000 in
theorem C_X11_pay (Γ : Gam) (hG : GX Γ) (this : Nat) (p0 : Int32) (p1 : Int32) : CtX Γ mX11_pay 6 vL [va_rf (some this), .int p0, .int p1] (F_X11_pay this p0 p1) := by
  refine ct_inX (lv := [(0, va_rf (some this)), (1, .int p0), (2, .int p1)]) (by decide) (by first | rfl | (simp only [lv_args, cat_rf]; rfl)) (by first | exact Nat.le_of_ble_eq_true rfl | (rw [lg_len]; simp only [List.map_cons, List.map_nil, cat_rf]; exact Nat.le_of_ble_eq_true rfl)) ?_
  unfold F_X11_pay
  refine ok_aload_n (dd TX11_pay_0 0 rfl) 0 rfl ?_
  refine ok_iload_n (dd TX11_pay_0 1 rfl) 1 rfl ?_
  refine ok_callVR (cn := 11) [.int p0] [] (fun b1 => C_X11_memberOf Γ b1 p0) rfl cy_X11_memberOf ml_RX11_96 im_X11_memberOf se_X11_memberOf (by decide) (Nat.le_of_ble_eq_true rfl) rfl (dd TX11_pay_0 2 rfl) (fun v2 => ?_)
  refine ok_astore_n (lv' := [(3, va_rf v2), (0, va_rf (some this)), (1, .int p0), (2, .int p1)]) (dd TX11_pay_0 3 rfl) (by decide) (by first | rfl | (simp only [List.filter, cat_rf]; rfl)) ?_
  refine ok_aload_n (dd TX11_pay_0 4 rfl) 0 rfl ?_
  refine ok_ifnull (tgt := 22) (dd TX11_pay_0 5 rfl) (by decide) ?_ ?_
  · refine ok_sub [] rfl ?_
    exact O_X11_pay_L22 Γ hG 
  · refine ok_iload_n (dd TX11_pay_0 6 rfl) 3 rfl ?_
    refine ok_ldc (v := (-1000000 : Int32)) (dd TX11_pay_0 7 rfl) ct_RX11_100 ?_
    refine ok_icmp_lt (tgt := 22) (dd TX11_pay_0 8 rfl) (by decide) ?_ ?_
    · refine ok_sub [] rfl ?_
      exact O_X11_pay_L22 Γ hG 
    · refine ok_iload_n (dd TX11_pay_0 9 rfl) 3 rfl ?_
      refine ok_ldc (v := (1000000 : Int32)) (dd TX11_pay_0 10 rfl) ct_RX11_101 ?_
      refine ok_icmp_le (tgt := 32) (dd TX11_pay_0 11 rfl) (by decide) ?_ ?_
      · refine ok_aload_n (dd TX11_pay_0 17 rfl) 0 rfl ?_
        refine ok_dup (dd TX11_pay_0 18 rfl) (by first | rfl | exact cat_rf _) ?_
        refine ok_gL fl_RX11_104 rfl (dd TX11_pay_0 19 rfl) (fun v3 => ?_)
        refine ok_iload_n (dd TX11_pay_0 20 rfl) 3 rfl ?_
        refine ok_i2l (dd TX11_pay_0 21 rfl) ?_
        refine ok_ladd (dd TX11_pay_0 22 rfl) ?_
        refine ok_wL fl_RX11_104 (Or.inl rfl) (tyX1_ok 2 (by decide)) (by decide) rfl (dd TX11_pay_0 23 rfl) ?_
        refine ok_aload_n (dd TX11_pay_0 24 rfl) 0 rfl ?_
        refine ok_gL fl_RX11_104 rfl (dd TX11_pay_0 25 rfl) (fun v4 => ?_)
        exact ok_lreturnX (dd TX11_pay_0 26 rfl) rfl
      · refine ok_sub [] rfl ?_
        exact O_X11_pay_L22 Γ hG 
def F_X11_position_L17  : M (Option Int32) := thr
set_option maxRecDepth 100000 in
theorem O_X11_position_L17 (Γ : Gam) (hG : GX Γ)  : Ok Γ mX11_position 6 (qx Γ vI) 17 [] [] (F_X11_position_L17 ) := by
  unfold F_X11_position_L17
  exact ok_thrN hG rfl cy_X11_position.1 tx_w1 tx_w2 (fun U h => h.2.2.2.2.2.1) tx_h1 tx_h2 tx_good (by decide) (Nat.le_of_ble_eq_true rfl) (dd TX11_position_0 9 rfl) (dd TX11_position_0 10 rfl) (dd TX11_position_0 11 rfl) (dd TX11_position_0 12 rfl) (dd TX11_position_0 13 rfl)
def F_X11_position (this : Nat) (p0 : Int32) (p1 : Int32) : M (Option Int32) := bn (pRc 11 (some this)) fun b1 => bn (F_X11_memberOf b1 p0) fun v2 => if v2 = none then F_X11_position_L17  else bn (F_X11_isMonth p1) fun v3 => if ¬ v3 = 0 then bn (gP 1 0 v2) fun v4 => bn (lI 104 v4 p1) fun v5 => rt (some v5) else F_X11_position_L17 
set_option maxRecDepth 100000 in
theorem C_X11_position (Γ : Gam) (hG : GX Γ) (this : Nat) (p0 : Int32) (p1 : Int32) : CtX Γ mX11_position 6 vI [va_rf (some this), .int p0, .int p1] (F_X11_position this p0 p1) := by
  refine ct_inX (lv := [(0, va_rf (some this)), (1, .int p0), (2, .int p1)]) (by decide) (by first | rfl | (simp only [lv_args, cat_rf]; rfl)) (by first | exact Nat.le_of_ble_eq_true rfl | (rw [lg_len]; simp only [List.map_cons, List.map_nil, cat_rf]; exact Nat.le_of_ble_eq_true rfl)) ?_
  unfold F_X11_position
  refine ok_aload_n (dd TX11_position_0 0 rfl) 0 rfl ?_
  refine ok_iload_n (dd TX11_position_0 1 rfl) 1 rfl ?_
  refine ok_callVR (cn := 11) [.int p0] [] (fun b1 => C_X11_memberOf Γ b1 p0) rfl cy_X11_memberOf ml_RX11_96 im_X11_memberOf se_X11_memberOf (by decide) (Nat.le_of_ble_eq_true rfl) rfl (dd TX11_position_0 2 rfl) (fun v2 => ?_)
  refine ok_astore_n (lv' := [(3, va_rf v2), (0, va_rf (some this)), (1, .int p0), (2, .int p1)]) (dd TX11_position_0 3 rfl) (by decide) (by first | rfl | (simp only [List.filter, cat_rf]; rfl)) ?_
  refine ok_aload_n (dd TX11_position_0 4 rfl) 0 rfl ?_
  refine ok_ifnull (tgt := 17) (dd TX11_position_0 5 rfl) (by decide) ?_ ?_
  · refine ok_sub [] rfl ?_
    exact O_X11_position_L17 Γ hG 
  · refine ok_iload_n (dd TX11_position_0 6 rfl) 3 rfl ?_
    refine ok_callSI [.int p1] [] (C_X11_isMonth Γ p1) cy_X11_isMonth ml_RX11_127 sm_X11_isMonth (by decide) (Nat.le_of_ble_eq_true rfl) rfl (dd TX11_position_0 7 rfl) (fun v3 => ?_)
    refine ok_if_ne (tgt := 27) (dd TX11_position_0 8 rfl) (by decide) ?_ ?_
    · refine ok_aload_n (dd TX11_position_0 14 rfl) 0 rfl ?_
      refine ok_gP fl_RX11_240 rfl (dd TX11_position_0 15 rfl) (fun v4 => ?_)
      refine ok_iload_n (dd TX11_position_0 16 rfl) 3 rfl ?_
      refine ok_lI (kd := 104) (by decide) rfl (dd TX11_position_0 17 rfl) (fun v5 => ?_)
      exact ok_ireturnX (dd TX11_position_0 18 rfl) rfl
    · refine ok_sub [] rfl ?_
      exact O_X11_position_L17 Γ hG 
def F_X11_rule_L20  : M (Option Int32) := thr
set_option maxRecDepth 100000 in
theorem O_X11_rule_L20 (Γ : Gam) (hG : GX Γ)  : Ok Γ mX11_rule 6 (qx Γ vI) 20 [] [] (F_X11_rule_L20 ) := by
  unfold F_X11_rule_L20
  exact ok_thrN hG rfl cy_X11_rule.1 tx_w1 tx_w2 (fun U h => h.2.2.1) tx_h1 tx_h2 tx_good (by decide) (Nat.le_of_ble_eq_true rfl) (dd TX11_rule_0 10 rfl) (dd TX11_rule_0 11 rfl) (dd TX11_rule_0 12 rfl) (dd TX11_rule_0 13 rfl) (dd TX11_rule_0 14 rfl)
def F_X11_rule (this : Nat) (p0 : Int32) (p1 : Int32) (p2 : Int32) (p3 : Int32) (p4 : Int32) (p5 : Int32) (p6 : Int32) : M (Option Int32) := if p0 < 0 then F_X11_rule_L20  else if (5 : Int32) < p0 then F_X11_rule_L20  else if p1 < 0 then F_X11_rule_L20  else if p1 ≤ (150 : Int32) then bn (gP 11 1 (some this)) fun v1 => bn (pRc 7 v1) fun b2 => bn (F_X7_valueOf b2 p0 p1 p2 p3 p4 p5 p6) fun v3 => rt (some v3) else F_X11_rule_L20 
set_option maxRecDepth 100000 in
theorem C_X11_rule (Γ : Gam) (hG : GX Γ) (this : Nat) (p0 : Int32) (p1 : Int32) (p2 : Int32) (p3 : Int32) (p4 : Int32) (p5 : Int32) (p6 : Int32) : CtX Γ mX11_rule 6 vI [va_rf (some this), .int p0, .int p1, .int p2, .int p3, .int p4, .int p5, .int p6] (F_X11_rule this p0 p1 p2 p3 p4 p5 p6) := by
  refine ct_inX (lv := [(0, va_rf (some this)), (1, .int p0), (2, .int p1), (3, .int p2), (4, .int p3), (5, .int p4), (6, .int p5), (7, .int p6)]) (by decide) (by first | rfl | (simp only [lv_args, cat_rf]; rfl)) (by first | exact Nat.le_of_ble_eq_true rfl | (rw [lg_len]; simp only [List.map_cons, List.map_nil, cat_rf]; exact Nat.le_of_ble_eq_true rfl)) ?_
  unfold F_X11_rule
  refine ok_iload_n (dd TX11_rule_0 0 rfl) 1 rfl ?_
  refine ok_if_lt (tgt := 20) (dd TX11_rule_0 1 rfl) (by decide) ?_ ?_
  · refine ok_sub [] rfl ?_
    exact O_X11_rule_L20 Γ hG 
  · refine ok_iload_n (dd TX11_rule_0 2 rfl) 1 rfl ?_
    refine ok_iconst (v := (5 : Int32)) (dd TX11_rule_0 3 rfl) (by decide) ?_
    refine ok_icmp_gt (tgt := 20) (dd TX11_rule_0 4 rfl) (by decide) ?_ ?_
    · refine ok_sub [] rfl ?_
      exact O_X11_rule_L20 Γ hG 
    · refine ok_iload_n (dd TX11_rule_0 5 rfl) 2 rfl ?_
      refine ok_if_lt (tgt := 20) (dd TX11_rule_0 6 rfl) (by decide) ?_ ?_
      · refine ok_sub [] rfl ?_
        exact O_X11_rule_L20 Γ hG 
      · refine ok_iload_n (dd TX11_rule_0 7 rfl) 2 rfl ?_
        refine ok_sipush (v := (150 : Int32)) (dd TX11_rule_0 8 rfl) (by decide) ?_
        refine ok_icmp_le (tgt := 30) (dd TX11_rule_0 9 rfl) (by decide) ?_ ?_
        · refine ok_aload_n (dd TX11_rule_0 15 rfl) 0 rfl ?_
          refine ok_gP fl_RX11_19 rfl (dd TX11_rule_0 16 rfl) (fun v1 => ?_)
          refine ok_iload_n (dd TX11_rule_0 17 rfl) 1 rfl ?_
          refine ok_iload_n (dd TX11_rule_0 18 rfl) 2 rfl ?_
          refine ok_iload_n (dd TX11_rule_0 19 rfl) 3 rfl ?_
          refine ok_iload (dd TX11_rule_0 20 rfl) 4 rfl ?_
          refine ok_iload (dd TX11_rule_0 21 rfl) 5 rfl ?_
          refine ok_iload (dd TX11_rule_0 22 rfl) 6 rfl ?_
          refine ok_iload (dd TX11_rule_0 23 rfl) 7 rfl ?_
          refine ok_callVI (cn := 7) [.int p0, .int p1, .int p2, .int p3, .int p4, .int p5, .int p6] [] (fun b2 => C_X7_valueOf Γ b2 p0 p1 p2 p3 p4 p5 p6) rfl cy_X7_valueOf ml_RX11_81 im_X7_valueOf se_X7_valueOf (by decide) (Nat.le_of_ble_eq_true rfl) rfl (dd TX11_rule_0 24 rfl) (fun v3 => ?_)
          exact ok_ireturnX (dd TX11_rule_0 25 rfl) rfl
        · refine ok_sub [] rfl ?_
          exact O_X11_rule_L20 Γ hG 
def F_L_rule (p0 : Option Nat) (p1 : Int32) (p2 : Int32) (p3 : Int32) (p4 : Int32) (p5 : Int32) (p6 : Int32) (p7 : Int32) (p8 : Option Nat) : M Int32 := bn (pRc 11 p0) fun b1 => bn (F_X11_rule b1 p1 p2 p3 p4 p5 p6 p7) fun o => ox o (fun v2 => bn (stL 377 p8 (0 : Int32) v2.toInt64) fun _ => rt (0 : Int32)) (rt (1 : Int32))
set_option maxRecDepth 100000 in
theorem C_L_rule (Γ : Gam) (hG : GX Γ) (p0 : Option Nat) (p1 : Int32) (p2 : Int32) (p3 : Int32) (p4 : Int32) (p5 : Int32) (p6 : Int32) (p7 : Int32) (p8 : Option Nat) : CtH Γ mL_rule 7 vI [va_rf p0, .int p1, .int p2, .int p3, .int p4, .int p5, .int p6, .int p7, va_rf p8] (F_L_rule p0 p1 p2 p3 p4 p5 p6 p7 p8) := by
  refine ct_inH cw_L_rule (lv := [(0, va_rf p0), (1, .int p1), (2, .int p2), (3, .int p3), (4, .int p4), (5, .int p5), (6, .int p6), (7, .int p7), (8, va_rf p8)]) (by decide) (by first | rfl | (simp only [lv_args, cat_rf]; rfl)) (by first | exact Nat.le_of_ble_eq_true rfl | (rw [lg_len]; simp only [List.map_cons, List.map_nil, cat_rf]; exact Nat.le_of_ble_eq_true rfl)) ?_
  unfold F_L_rule
  refine ok_aload (dd TL_rule_0 0 rfl) 8 rfl ?_
  refine ok_iconst (v := (0 : Int32)) (dd TL_rule_0 1 rfl) (by decide) ?_
  refine ok_aload_n (dd TL_rule_0 2 rfl) 0 rfl ?_
  refine ok_iload_n (dd TL_rule_0 3 rfl) 1 rfl ?_
  refine ok_iload_n (dd TL_rule_0 4 rfl) 2 rfl ?_
  refine ok_iload_n (dd TL_rule_0 5 rfl) 3 rfl ?_
  refine ok_iload (dd TL_rule_0 6 rfl) 4 rfl ?_
  refine ok_iload (dd TL_rule_0 7 rfl) 5 rfl ?_
  refine ok_iload (dd TL_rule_0 8 rfl) 6 rfl ?_
  refine ok_iload (dd TL_rule_0 9 rfl) 7 rfl ?_
  refine ok_callXI (cn := 11) (hpc := 23) (s0' := 0) (e0' := 20) (ct := 13) [.int p1, .int p2, .int p3, .int p4, .int p5, .int p6, .int p7] [.int (0 : Int32), va_rf p8] (fun b1 => C_X11_rule Γ hG b1 p1 p2 p3 p4 p5 p6 p7) rfl cy_X11_rule ml_RL_7 im_X11_rule se_X11_rule (by decide) (Nat.le_of_ble_eq_true rfl) rfl (dd TL_rule_0 10 rfl) cw_L_rule (by decide) (by decide) ce_RL_13 ce_nn (fun v2 => ?_) (fun q3 => ?_)
  · refine ok_i2l (dd TL_rule_0 11 rfl) ?_
    refine ok_stL (kd := 377) (by decide) rfl (dd TL_rule_0 12 rfl) ?_
    refine ok_goto (tgt := 27) (dd TL_rule_0 13 rfl) (by decide) ?_
    refine ok_iconst (v := (0 : Int32)) (dd TL_rule_0 17 rfl) (by decide) ?_
    exact ok_ireturn (dd TL_rule_0 18 rfl) rfl
  · refine ok_astore (lv' := [(9, va_rf q3), (0, va_rf p0), (1, .int p1), (2, .int p2), (3, .int p3), (4, .int p4), (5, .int p5), (6, .int p6), (7, .int p7), (8, va_rf p8)]) (dd TL_rule_0 14 rfl) (by decide) (by first | rfl | (simp only [List.filter, cat_rf]; rfl)) ?_
    refine ok_iconst (v := (1 : Int32)) (dd TL_rule_0 15 rfl) (by decide) ?_
    exact ok_ireturn (dd TL_rule_0 16 rfl) rfl
def F_L_pay (p0 : Option Nat) (p1 : Int32) (p2 : Int32) (p3 : Option Nat) : M Int32 := bn (pRc 11 p0) fun b1 => bn (F_X11_pay b1 p1 p2) fun o => ox o (fun v2 => bn (stL 377 p3 (0 : Int32) v2) fun _ => rt (0 : Int32)) (rt (1 : Int32))
set_option maxRecDepth 100000 in
theorem C_L_pay (Γ : Gam) (hG : GX Γ) (p0 : Option Nat) (p1 : Int32) (p2 : Int32) (p3 : Option Nat) : CtH Γ mL_pay 7 vI [va_rf p0, .int p1, .int p2, va_rf p3] (F_L_pay p0 p1 p2 p3) := by
  refine ct_inH cw_L_pay (lv := [(0, va_rf p0), (1, .int p1), (2, .int p2), (3, va_rf p3)]) (by decide) (by first | rfl | (simp only [lv_args, cat_rf]; rfl)) (by first | exact Nat.le_of_ble_eq_true rfl | (rw [lg_len]; simp only [List.map_cons, List.map_nil, cat_rf]; exact Nat.le_of_ble_eq_true rfl)) ?_
  unfold F_L_pay
  refine ok_aload_n (dd TL_pay_0 0 rfl) 3 rfl ?_
  refine ok_iconst (v := (0 : Int32)) (dd TL_pay_0 1 rfl) (by decide) ?_
  refine ok_aload_n (dd TL_pay_0 2 rfl) 0 rfl ?_
  refine ok_iload_n (dd TL_pay_0 3 rfl) 1 rfl ?_
  refine ok_iload_n (dd TL_pay_0 4 rfl) 2 rfl ?_
  refine ok_callXL (cn := 11) (hpc := 12) (s0' := 0) (e0' := 9) (ct := 13) [.int p1, .int p2] [.int (0 : Int32), va_rf p3] (fun b1 => C_X11_pay Γ hG b1 p1 p2) rfl cy_X11_pay ml_RL_15 im_X11_pay se_X11_pay (by decide) (Nat.le_of_ble_eq_true rfl) rfl (dd TL_pay_0 5 rfl) cw_L_pay (by decide) (by decide) ce_RL_13 ce_nn (fun v2 => ?_) (fun q3 => ?_)
  · refine ok_stL (kd := 377) (by decide) rfl (dd TL_pay_0 6 rfl) ?_
    refine ok_goto (tgt := 16) (dd TL_pay_0 7 rfl) (by decide) ?_
    refine ok_iconst (v := (0 : Int32)) (dd TL_pay_0 11 rfl) (by decide) ?_
    exact ok_ireturn (dd TL_pay_0 12 rfl) rfl
  · refine ok_astore (lv' := [(4, va_rf q3), (0, va_rf p0), (1, .int p1), (2, .int p2), (3, va_rf p3)]) (dd TL_pay_0 8 rfl) (by decide) (by first | rfl | (simp only [List.filter, cat_rf]; rfl)) ?_
    refine ok_iconst (v := (1 : Int32)) (dd TL_pay_0 9 rfl) (by decide) ?_
    exact ok_ireturn (dd TL_pay_0 10 rfl) rfl
def F_L_money (p0 : Option Nat) (p1 : Int32) (p2 : Int32) (p3 : Option Nat) : M Int32 := bn (pRc 11 p0) fun b1 => bn (F_X11_money b1 p1 p2) fun o => ox o (fun v2 => bn (stL 377 p3 (0 : Int32) v2) fun _ => rt (0 : Int32)) (rt (1 : Int32))
set_option maxRecDepth 100000 in
theorem C_L_money (Γ : Gam) (hG : GX Γ) (p0 : Option Nat) (p1 : Int32) (p2 : Int32) (p3 : Option Nat) : CtH Γ mL_money 7 vI [va_rf p0, .int p1, .int p2, va_rf p3] (F_L_money p0 p1 p2 p3) := by
  refine ct_inH cw_L_money (lv := [(0, va_rf p0), (1, .int p1), (2, .int p2), (3, va_rf p3)]) (by decide) (by first | rfl | (simp only [lv_args, cat_rf]; rfl)) (by first | exact Nat.le_of_ble_eq_true rfl | (rw [lg_len]; simp only [List.map_cons, List.map_nil, cat_rf]; exact Nat.le_of_ble_eq_true rfl)) ?_
  unfold F_L_money
  refine ok_aload_n (dd TL_money_0 0 rfl) 3 rfl ?_
  refine ok_iconst (v := (0 : Int32)) (dd TL_money_0 1 rfl) (by decide) ?_
  refine ok_aload_n (dd TL_money_0 2 rfl) 0 rfl ?_
  refine ok_iload_n (dd TL_money_0 3 rfl) 1 rfl ?_
  refine ok_iload_n (dd TL_money_0 4 rfl) 2 rfl ?_
  refine ok_callXL (cn := 11) (hpc := 12) (s0' := 0) (e0' := 9) (ct := 13) [.int p1, .int p2] [.int (0 : Int32), va_rf p3] (fun b1 => C_X11_money Γ hG b1 p1 p2) rfl cy_X11_money ml_RL_19 im_X11_money se_X11_money (by decide) (Nat.le_of_ble_eq_true rfl) rfl (dd TL_money_0 5 rfl) cw_L_money (by decide) (by decide) ce_RL_13 ce_nn (fun v2 => ?_) (fun q3 => ?_)
  · refine ok_stL (kd := 377) (by decide) rfl (dd TL_money_0 6 rfl) ?_
    refine ok_goto (tgt := 16) (dd TL_money_0 7 rfl) (by decide) ?_
    refine ok_iconst (v := (0 : Int32)) (dd TL_money_0 11 rfl) (by decide) ?_
    exact ok_ireturn (dd TL_money_0 12 rfl) rfl
  · refine ok_astore (lv' := [(4, va_rf q3), (0, va_rf p0), (1, .int p1), (2, .int p2), (3, va_rf p3)]) (dd TL_money_0 8 rfl) (by decide) (by first | rfl | (simp only [List.filter, cat_rf]; rfl)) ?_
    refine ok_iconst (v := (1 : Int32)) (dd TL_money_0 9 rfl) (by decide) ?_
    exact ok_ireturn (dd TL_money_0 10 rfl) rfl
def F_L_position (p0 : Option Nat) (p1 : Int32) (p2 : Int32) (p3 : Option Nat) : M Int32 := bn (pRc 11 p0) fun b1 => bn (F_X11_position b1 p1 p2) fun o => ox o (fun v2 => bn (stL 377 p3 (0 : Int32) v2.toInt64) fun _ => rt (0 : Int32)) (rt (1 : Int32))
set_option maxRecDepth 100000 in
theorem C_L_position (Γ : Gam) (hG : GX Γ) (p0 : Option Nat) (p1 : Int32) (p2 : Int32) (p3 : Option Nat) : CtH Γ mL_position 7 vI [va_rf p0, .int p1, .int p2, va_rf p3] (F_L_position p0 p1 p2 p3) := by
  refine ct_inH cw_L_position (lv := [(0, va_rf p0), (1, .int p1), (2, .int p2), (3, va_rf p3)]) (by decide) (by first | rfl | (simp only [lv_args, cat_rf]; rfl)) (by first | exact Nat.le_of_ble_eq_true rfl | (rw [lg_len]; simp only [List.map_cons, List.map_nil, cat_rf]; exact Nat.le_of_ble_eq_true rfl)) ?_
  unfold F_L_position
  refine ok_aload_n (dd TL_position_0 0 rfl) 3 rfl ?_
  refine ok_iconst (v := (0 : Int32)) (dd TL_position_0 1 rfl) (by decide) ?_
  refine ok_aload_n (dd TL_position_0 2 rfl) 0 rfl ?_
  refine ok_iload_n (dd TL_position_0 3 rfl) 1 rfl ?_
  refine ok_iload_n (dd TL_position_0 4 rfl) 2 rfl ?_
  refine ok_callXI (cn := 11) (hpc := 13) (s0' := 0) (e0' := 10) (ct := 13) [.int p1, .int p2] [.int (0 : Int32), va_rf p3] (fun b1 => C_X11_position Γ hG b1 p1 p2) rfl cy_X11_position ml_RL_22 im_X11_position se_X11_position (by decide) (Nat.le_of_ble_eq_true rfl) rfl (dd TL_position_0 5 rfl) cw_L_position (by decide) (by decide) ce_RL_13 ce_nn (fun v2 => ?_) (fun q3 => ?_)
  · refine ok_i2l (dd TL_position_0 6 rfl) ?_
    refine ok_stL (kd := 377) (by decide) rfl (dd TL_position_0 7 rfl) ?_
    refine ok_goto (tgt := 17) (dd TL_position_0 8 rfl) (by decide) ?_
    refine ok_iconst (v := (0 : Int32)) (dd TL_position_0 12 rfl) (by decide) ?_
    exact ok_ireturn (dd TL_position_0 13 rfl) rfl
  · refine ok_astore (lv' := [(4, va_rf q3), (0, va_rf p0), (1, .int p1), (2, .int p2), (3, va_rf p3)]) (dd TL_position_0 9 rfl) (by decide) (by first | rfl | (simp only [List.filter, cat_rf]; rfl)) ?_
    refine ok_iconst (v := (1 : Int32)) (dd TL_position_0 10 rfl) (by decide) ?_
    exact ok_ireturn (dd TL_position_0 11 rfl) rfl
def F_L_equity (p0 : Option Nat) (p1 : Int32) (p2 : Int32) (p3 : Int32) (p4 : Option Nat) : M Int32 := bn (pRc 11 p0) fun b1 => bn (F_X11_equity b1 p1 p2 p3) fun o => ox o (fun v2 => bn (stL 377 p4 (0 : Int32) v2) fun _ => rt (0 : Int32)) (rt (1 : Int32))
set_option maxRecDepth 100000 in
theorem C_L_equity (Γ : Gam) (hG : GX Γ) (p0 : Option Nat) (p1 : Int32) (p2 : Int32) (p3 : Int32) (p4 : Option Nat) : CtH Γ mL_equity 7 vI [va_rf p0, .int p1, .int p2, .int p3, va_rf p4] (F_L_equity p0 p1 p2 p3 p4) := by
  refine ct_inH cw_L_equity (lv := [(0, va_rf p0), (1, .int p1), (2, .int p2), (3, .int p3), (4, va_rf p4)]) (by decide) (by first | rfl | (simp only [lv_args, cat_rf]; rfl)) (by first | exact Nat.le_of_ble_eq_true rfl | (rw [lg_len]; simp only [List.map_cons, List.map_nil, cat_rf]; exact Nat.le_of_ble_eq_true rfl)) ?_
  unfold F_L_equity
  refine ok_aload (dd TL_equity_0 0 rfl) 4 rfl ?_
  refine ok_iconst (v := (0 : Int32)) (dd TL_equity_0 1 rfl) (by decide) ?_
  refine ok_aload_n (dd TL_equity_0 2 rfl) 0 rfl ?_
  refine ok_iload_n (dd TL_equity_0 3 rfl) 1 rfl ?_
  refine ok_iload_n (dd TL_equity_0 4 rfl) 2 rfl ?_
  refine ok_iload_n (dd TL_equity_0 5 rfl) 3 rfl ?_
  refine ok_callXL (cn := 11) (hpc := 14) (s0' := 0) (e0' := 11) (ct := 13) [.int p1, .int p2, .int p3] [.int (0 : Int32), va_rf p4] (fun b1 => C_X11_equity Γ hG b1 p1 p2 p3) rfl cy_X11_equity ml_RL_26 im_X11_equity se_X11_equity (by decide) (Nat.le_of_ble_eq_true rfl) rfl (dd TL_equity_0 6 rfl) cw_L_equity (by decide) (by decide) ce_RL_13 ce_nn (fun v2 => ?_) (fun q3 => ?_)
  · refine ok_stL (kd := 377) (by decide) rfl (dd TL_equity_0 7 rfl) ?_
    refine ok_goto (tgt := 18) (dd TL_equity_0 8 rfl) (by decide) ?_
    refine ok_iconst (v := (0 : Int32)) (dd TL_equity_0 12 rfl) (by decide) ?_
    exact ok_ireturn (dd TL_equity_0 13 rfl) rfl
  · refine ok_astore (lv' := [(5, va_rf q3), (0, va_rf p0), (1, .int p1), (2, .int p2), (3, .int p3), (4, va_rf p4)]) (dd TL_equity_0 9 rfl) (by decide) (by first | rfl | (simp only [List.filter, cat_rf]; rfl)) ?_
    refine ok_iconst (v := (1 : Int32)) (dd TL_equity_0 10 rfl) (by decide) ?_
    exact ok_ireturn (dd TL_equity_0 11 rfl) rfl
