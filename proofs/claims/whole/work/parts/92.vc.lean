def R_law : String := "GrainPitLaw"
def lw_P (b : Addr) (xs : List Int32) (args : Array Value) (s : State) : Prop := args = #[.ref b] ∧ s.IntsAt b xs ∧ xs.length ≤ 4096 ∧ (Jvm.Cond.and given_1 narrow_1).before args s = true
def lw_Q (_ : Array Value) (s : State) (o : Outcome) (t : State) : Prop := o = .returned (some (.int 1)) ∧ Framed s o t [] 601024 7293034
def lw_Z (below : List Frame) (a : Array Value) (s : State) : State → Prop := fun t => ∃ o, t.status = .running ∧ Ended t below o ∧ lw_Q a s o t
def lw_At (p : Program) (s : State) (m : MethodId) (meth : Method) (c : Code) (b L : Nat) (xs : Nat → Int32) : Prop :=
  p.tables.exec = Jvm.exec ∧ c.code = code ∧ meth.sig.returnType = ret ∧ c.maxLocals = 8 ∧ s.vm.findClass R_law = some m.cls ∧ (∀ w ∈ lw_tbl, w.before #[Value.ref b] s = true) ∧ va_X b L xs s s.heap ∧ b < s.heap.size ∧ meth.locks = false ∧ (Jvm.Cond.and given_1 narrow_1).before #[Value.ref b] s = true ∧ meth.name = mL_law.1.name ∧ ((Cond.code mL_law.1 mL_law.2.1 mL_law.2.2.1 mL_law.2.2.2 ∈ lw_g → c.exceptionTable.toList = []) ∧ ∀ hh, Cond.codeWith mL_law.1 mL_law.2.1 mL_law.2.2.1 mL_law.2.2.2 hh ∈ lw_g → c.exceptionTable.toList = tableOf hh)
theorem room_le {s : State} {pl : Platform} {R R' : Room} (h : s.hasRoom pl R = true) (h1 : R'.frames ≤ R.frames) (h2 : R'.locals ≤ R.locals) (h3 : R'.cells ≤ R.cells) (h4 : R'.slots ≤ R.slots) : s.hasRoom pl R' = true := by
  simp only [State.hasRoom, Bool.and_eq_true, decide_eq_true_eq] at h ⊢
  obtain ⟨⟨⟨⟨a1, a2, a3, a4, a5, a6⟩, a7⟩, a8⟩, a9⟩ := h
  exact ⟨⟨⟨⟨by omega, by omega, by omega, by omega, by omega, a6⟩, by omega⟩, by omega⟩, a9⟩
theorem stand_room {p : Program} {l : Launch} {e : Env} {R R' : Room} {s : State} {m : MethodId} {args : Array Value} {below : List Frame} {meth : Method} {c : Code} {T : State} {locs : List Loc} {cells slots : Nat} (X : Stand p l e R s m args below meth c T locs cells slots) (h1 : R'.frames ≤ R.frames) (h2 : R'.locals ≤ R.locals) (h3 : R'.cells ≤ R.cells) (h4 : R'.slots ≤ R.slots) : Stand p l e R' s m args below meth c T locs cells slots :=
  ⟨X.admits, X.cas, X.clock, X.frames, room_le X.room h1 h2 h3 h4, X.hears, X.method, X.code, X.here, X.tail, X.warmed, X.limits, X.bytes, X.same⟩
theorem same_forget {s t : State} {L : List Loc} {k n k' n' : Nat} (h : s.sameButNew t L k n) (hL : ∀ q ∈ L, s.heap.size ≤ q.base) (hk : k ≤ k') (hn : n ≤ n') : s.sameButNew t [] k' n' := by
  obtain ⟨a1, a2, a3, a4, a5, a6⟩ := h
  refine ⟨a1, a2, by omega, a4, by omega, fun a c hc => ?_⟩
  obtain ⟨c', b1, b2, b3, b4⟩ := a6 a c hc
  refine ⟨c', b1, b2, b3, fun i _ => b4 i (fun hm => ?_)⟩
  have z1 : s.heap.size ≤ a := hL _ hm
  have z2 := (Array.getElem?_eq_some_iff.mp hc).1
  omega
/-- the law's walk out of its program's answer -/
theorem law_w {Γ : Gam} {p : Program} {e : Env} {s : State} {m : MethodId} {below : List Frame} {meth : Method} {c : Code} {b L : Nat} {xs : Nat → Int32} {μ0 μ' : Mem} (hF : F_L_law b L xs μ0 = some (1, μ')) (hc : Ctx Γ mL_law p s m #[Value.ref b] meth c) (hD : Wd Γ μ0 s.heap) (hB : gB Γ = s.heap.size) (hX : mX μ' - mX μ0 ≤ 601024) (hS : mS μ' - mS μ0 ≤ 7293034) (hG : GX Γ) (hS0 : GS Γ b L xs) : W p (gL Γ) e room_1 s m #[Value.ref b] below meth c s.heap [] 0 0 (lw_Z below #[Value.ref b] s) (entryFrame m ([Value.ref b] : List Value).toArray 8) := by
  have hl := lv_entry ([Value.ref b]) (n := 8) (Nat.le_of_ble_eq_true rfl)
  rw [lg_entry_eq]
  have hW := (O_L_law Γ hG b L xs hS0 μ0 1 μ' hF).2 p e s m #[Value.ref b] below meth c (mX μ0) (mS μ0) s.heap [] _ hc (Nat.le_refl _) (Nat.le_refl _) va_S.rf hD hl
  rw [Nat.sub_self, Nat.sub_self] at hW
  intro T hT X
  obtain ⟨t, a1, o, b1, b2, ⟨ho, -, -⟩, L', ⟨hv, hWm, hsame⟩, hL'⟩ := hW T hT (stand_room X (Nat.le_of_ble_eq_true rfl) (Nat.le_of_ble_eq_true rfl) hX hS)
  exact ⟨t, a1, o, b1, b2, ho, hv, hWm, same_forget hsame (fun q hq => by rw [← hB]; exact hL' q hq) hX hS⟩
def st_m (n : Nat) (T : Nat → Option Nat) : Mem := (fun _ _ => 0, fun _ _ => 0, fun _ _ => none, fun _ _ _ => 0, fun _ _ _ => 0, fun _ _ _ => none, fun _ => 0, fun _ => 0, n, 0, T)
def st_E (b L : Nat) (xs : Nat → Int32) (Γ : Gam) : State → Prop := fun U => va_X b L xs U U.heap ∧ b < U.heap.size ∧ XE Γ U
set_option maxHeartbeats 4000000 in
theorem whole_start {p : Program} {e : Env} {s : State} {m : MethodId} {below : List Frame} {meth : Method} {c : Code} (l : Launch) (hst : l.stackTraces = false) {b L : Nat} {xs : Nat → Int32} (hL : L ≤ 4096) (C0 : lw_At p s m meth c b L xs) : W p l e room_1 s m #[Value.ref b] below meth c s.heap [] 0 0 (lw_Z below #[Value.ref b] s) (entryFrame m ([Value.ref b] : List Value).toArray 8) := by
  obtain ⟨hx, hb, hr, hml, hown, hts, hX, hbl, hlocks, hgv, hnm, htab⟩ := C0
  obtain ⟨dC, dI, hKc⟩ := st_cls hts
  obtain ⟨f, hf⟩ := st_arr hts
  obtain ⟨T, ⟨⟨t0, e0, l0⟩, e40, e1, e11⟩, hEX⟩ := st_ex hts hgv
  obtain ⟨Γ, eΓ⟩ : ∃ Γ : Gam, Γ = (l, (dC, dI), f, s.heap.size, T, st_E b L xs (l, (dC, dI), f, s.heap.size, T, fun _ => True)) := ⟨_, rfl⟩
  have hB : gB Γ = s.heap.size := by rw [eΓ]
  have hE : st_E b L xs (l, (dC, dI), f, s.heap.size, T, fun _ => True) s := ⟨hX, hbl, (hEX l (dC, dI) f (fun _ => True)).2⟩
  have hKK : KK Γ s := by
    rw [eΓ]
    exact ⟨⟨hKc, hf⟩, fun w hw => nn_of (List.mem_filter.mp hw).2 (st_n hts w hw), (hEX l (dC, dI) f _).1 hE⟩
  have hSt : Stab Γ := by
    rw [eΓ]
    intro u U h hW hs hk
    obtain ⟨h1, h2, z1, z2, ⟨a1, r1⟩, ⟨a2, r2⟩, ⟨a3, r3⟩, ⟨a4, r4⟩, ⟨a5, r5⟩⟩ := h
    exact ⟨va_X.kept (va_X.moved hW.alike h1) (hk b h2 (Nat.not_le.mpr hbl)), Nat.lt_of_lt_of_le h2 hs, vx_Zq.kept (vx_Zq.moved hW.alike z1) hk, vx_Zq.kept (vx_Zq.moved hW.alike z2) hk, ⟨a1, vk_R.warm hW r1⟩, ⟨a2, vk_R.warm hW r2⟩, ⟨a3, vk_R.warm hW r3⟩, ⟨a4, vk_R.warm hW r4⟩, ⟨a5, vk_R.warm hW r5⟩⟩
  have hG : GX Γ := by
    rw [eΓ]
    exact ⟨hst, fun U h => h.2.2⟩
  have hS0 : GS Γ b L xs := by
    rw [eΓ]
    exact fun U h => ⟨h.1, h.2.1, Nat.not_le.mpr hbl⟩
  have hl' : gL Γ = l := by rw [eΓ]
  have hT' : gT Γ = T := by rw [eΓ]
  have hz : Zz (st_m s.heap.size T) := fun a _ => ⟨fun _ => rfl, fun _ => rfl, fun _ => rfl, fun _ _ => rfl, fun _ _ => rfl, fun _ _ => rfl, rfl, rfl⟩
  have hTT : TT (st_m s.heap.size T) := ⟨⟨t0, e0, l0, rfl⟩, e40, e1, e11⟩
  obtain ⟨r, μ', hF, hr1, hX', hS'⟩ := law_ok (μ0 := st_m s.heap.size T) (b' := b) (L := L) (xs := xs) hz hTT (fun _ => rfl) hL
  rw [hr1] at hF
  have hc : Ctx Γ mL_law p s m #[Value.ref b] meth c := ⟨hx, hb, hr, hml, hown, st_g hts, hlocks, hnm, hKK, hSt, by rw [hB]; exact Nat.le_refl _, htab⟩
  have hD : Wd Γ (st_m s.heap.size T) s.heap := ⟨rfl, hT'.symm, fun a ha => absurd rfl ha⟩
  have key := law_w (below := below) (e := e) hF hc hD hB (by omega) (by omega) hG hS0
  rw [hl'] at key
  exact key
set_option maxHeartbeats 4000000 in
theorem lw_walk (l : Launch) (hst : l.stackTraces = false) (b : Addr) (xs : List Int32) : MetFree l x (headSpec (Jvm.Cond.code x code maxLocals ret :: tables_1) room_1) (lw_P b xs) (fun _ _ _ _ _ => True) lw_Q := by
  refine MetFree.of_bodyS (code := code) (maxLocals := maxLocals) (ret := ret) (by decide) ?_ ?_
  · intro args s m h hn
    obtain ⟨meth, c, h1, h2, h3, h4, h5, h6, -, -⟩ := Cond.code_spec hn (atoms_spec (ws := Jvm.Cond.code x code maxLocals ret :: tables_1) h _ List.mem_cons_self)
    exact ⟨meth, c, h1, h2, h3, h4, h5, h6⟩
  · intro p e s m args below meth c s₁ B hml0 hP _
    obtain ⟨rfl, hx, hbd, hgv⟩ := hP
    obtain ⟨scr, harrAt, hlist, hof, hsmall⟩ := hx
    obtain ⟨hcb, hkn, -, -⟩ := State.arrayAt?_spec harrAt
    have hown : s.vm.findClass R_law = some m.cls := findClass_of_methodNamed B.named
    have hts0 : ∀ c ∈ (Jvm.Cond.code x code maxLocals ret :: tables_1), c.before #[Value.ref b] s = true := atoms_spec (ws := Jvm.Cond.code x code maxLocals ret :: tables_1) B.pre
    have hts : ∀ w ∈ lw_tbl, w.before #[Value.ref b] s = true := k2_hts_sels lw_privs (fun w hw => hts0 w (List.mem_cons_of_mem _ hw)) lw_privs_ok
    have hml : c.maxLocals = 8 := B.maxLocals_eq (hts0 _ List.mem_cons_self)
    have X₀ : Stand p l e room_1 s m #[Value.ref b] below meth c s₁ [] 0 0 := Stand.of_body B
    have hh0 : s₁.heap = s.heap := by rw [B.state]; rfl
    have hsz : scr.slots.size = xs.length := by rw [← Array.length_toList, hlist, List.length_map]
    have hval : ∀ j : Nat, j < xs.length → scr.slots[j]? = some (.int (xs.getD j 0)) := fun j hj => by
      rw [← Array.getElem?_toList, hlist]
      simp [hj]
    have hbl : b < s.heap.size := (Array.getElem?_eq_some_iff.mp hcb).1
    have hX : va_X b xs.length (fun j => xs.getD j 0) s s.heap := ⟨scr, hcb, hof, hkn, hsz, hval⟩
    have K : W p l e room_1 s m #[Value.ref b] below meth c s₁.heap [] 0 0 (lw_Z below #[Value.ref b] s) (entryFrame m ([Value.ref b] : List Value).toArray 8) := by
      rw [hh0]
      exact whole_start l hst hbd ⟨B.exec, B.bytes, B.returns, hml, hown, hts, hX, hbl, B.notSynchronized, hgv, (name_of_methodNamed B.named B.method).1, ctx_tab (y := mL_law) B hts (fun w hw => (List.mem_filter.mp hw).1)⟩
    obtain ⟨t, a1, o, b1, b2, b3⟩ := K s₁ rfl X₀
    exact ⟨t, o, a1, b1, b2, b3⟩
theorem lw_pre_spec {args : Array Value} {s : State} (h : (Jvm.Cond.and given_1 narrow_1).before args s = true) (hr : rest_1_c.before args s = true) : ∃ (b : Addr) (xs : List Int32), lw_P b xs args s := by
  have hs := flat_of_before _ h
  have hq := flat_of_before _ hr
  have hc : (Cond.count 1).before args s = true := hs _ (by decide +kernel)
  have harr : (Cond.arrayOf (.arg 0) .int).before args s = true := hs _ (by decide +kernel)
  have hle : (Cond.le (.length (.arg 0)) (.int 4096)).before args s = true := hs _ (by decide +kernel)
  have hlen : (Cond.isInt (.length (.arg 0))).before args s = true := hq _ (by decide +kernel)
  have hall : (Cond.all (.arg 0) (.isInt (.elem (.arg 0) (.index 0)))).before args s = true := hq _ (by decide +kernel)
  obtain ⟨b, xs, hb, hx⟩ := State.ints_of_pre rfl harr hlen hall
  have hsm : xs.length < 2 ^ 31 := hx.choose_spec.2.2.2
  have hev : (Term.length (.arg 0)).eval args s none [] s = some (.int xs.length.toInt32) := hx.length_eval hb
  have hv := Cond.le_ints hev (show (Term.int 4096).eval args s none [] s = some (.int 4096) from rfl)
  have hd : xs.length.toInt32 ≤ 4096 := by
    simpa [Cond.before, Cond.holds, hv] using hle
  have hN : xs.length ≤ 4096 := (Int32.ofNat_le_ofNat hsm (by decide)).mp (show Int32.ofNat xs.length ≤ Int32.ofNat 4096 from hd)
  exact ⟨b, xs, Cond.one_arg hc (show args[0]? = some (.ref b) from hb), hx, hN, h⟩
theorem lw_comes (l : Launch) (hst : l.stackTraces = false) : Comes l x (Jvm.Cond.code x code maxLocals ret :: tables_1) room_1 (fun tb e args s => Calls_1 tb e args s ∧ rest_1 tb e args s ∧ Pre_1 tb e args s)
    (fun _ _ args s o t => lw_Q args s o t) := by
  intro p e ha hc hk s m args below hf hfit hheap happ hpre
  obtain ⟨b, xs, hP⟩ := lw_pre_spec hpre.2.2 hpre.2.1
  obtain ⟨k, o, h1, h2, h3, hQ⟩ := lw_walk l hst b xs p e ha hc hk s m args below hf ((Spec.applies_iff_loose hf).mp happ).1 hP trivial
  exact ⟨k, o, h1, h2, h3, hQ⟩
theorem lw_frame {s t : State} {o : Outcome} {args : Array Value} (h : Framed s o t [] 601024 7293034) :
    Framed s o t (fieldLocs frame_1_writes args s ++ arrayLocs frame_1_arrays args s ++ staticLocs frame_1_statics s) 601024 7293034 := h
theorem lw_limb (L : Cond) (hL : ∀ (args : Array Value) (s t : State), L.after args s (.returned (some (.int 1))) t = true) :
    ArmFor flags0 classFile x code maxLocals ret World_1 tables_1 room_1 Calls_1 rest_1 Pre_1
      (fun tb e a s o t => postC L tb e a s o t ∧ Framed s o t (fieldLocs frame_1_writes a s ++ arrayLocs frame_1_arrays a s ++ staticLocs frame_1_statics s) 601024 7293034) := by
  intro l hfl _ _ p e ha hc hk s m args below hf hfit hheap happ hpre
  obtain ⟨k, o, h1, h2, h3, rfl, hF⟩ := lw_comes l (by unfold Launch.stackTraces; rw [hfl]; decide) p e ha hc hk s m args below hf hfit hheap happ hpre
  exact ⟨k, _, h1, h2, h3, hL args s _, lw_frame hF⟩
theorem i_vc : Claimed_1_1 ∧ Claimed_1_2 := ⟨lw_limb limb_1_1 (fun args s t => by simp [limb_1_1, Cond.after, Cond.holds, Cond.value]), lw_limb limb_1_2 (fun args s t => Cond.after_iff.mpr (by
  first | (rw [show limb_1_2 = Cond.eq .result (.int 1) from rfl, Cond.eq_ints (x := 1) (y := 1) rfl rfl]; simp; done) | (simp [limb_1_2, Cond.value, Term.eval]; done)))⟩
