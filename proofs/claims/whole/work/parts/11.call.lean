theorem nn_warm {s U : State} (hW : s.WarmedH U.vm) {w : Cond} (hw : nnw w = true) (h : va_Nw w s) : va_Nw w U := by
  cases w <;> first
    | (simp [nnw] at hw; done)
    | exact va_Nw.warmM hW h
    | exact va_Nw.warmC hW h
    | exact va_Nw.warmD hW h
    | (rename_i t; cases t <;> first | (simp [nnw] at hw; done) | exact va_AO.moved hW.alike h)
theorem ex_to {Γ : Gam} {s U : State} (hst : Stab Γ) (h : EX Γ s) (hW : s.WarmedH U.vm) (hs : s.heap.size ≤ U.heap.size) (hk : ∀ q, q < s.heap.size → ¬ gB Γ ≤ q → U.heap[q]? = s.heap[q]?) : EX Γ U := by
  obtain ⟨⟨h1, t0, h10, h11⟩, ⟨mi, h2, h3⟩, h4, h5, ⟨aK, aV, g0, g1, g2, g3, g4, g5⟩, h6⟩ := h
  exact ⟨⟨va_Z.kept (va_Z.moved hW.alike h1) hk, t0, h10, va_T.kept (va_T.moved hW.alike h11) hk⟩, ⟨mi, h2, va_Mi.moved hW.alike h3⟩, va_Z.kept (va_Z.moved hW.alike h4) hk, va_Z.kept (va_Z.moved hW.alike h5) hk, ⟨aK, aV, g0, vk_S.kept (vk_S.moved hW.alike g1) hk, vk_R.warm hW g2, vk_R.warm hW g3, vk_R.warm hW g4, vk_R.warm hW g5⟩, hst s U h6 hW hs hk⟩
theorem kk_to {Γ : Gam} {s U : State} (hst : Stab Γ) (h : KK Γ s) (hW : s.WarmedH U.vm) (hs : s.heap.size ≤ U.heap.size) (hk : ∀ q, q < s.heap.size → ¬ gB Γ ≤ q → U.heap[q]? = s.heap[q]?) : KK Γ U :=
  ⟨va_K.moved hW.alike h.1, fun w hw => nn_warm hW (List.mem_filter.mp hw).2 (h.2.1 w hw), ex_to hst h.2.2 hW hs hk⟩
theorem pc_blind {Γ : Gam} (hst : Stab Γ) (μ : Mem) (av : List Value) : FrameBlind (va_Pc av (fun U => Wd Γ μ U.heap ∧ KK Γ U ∧ gB Γ ≤ U.heap.size)) := fun a U g mk h =>
  ⟨h.1, h.2.1, kk_to (s := U) (U := U.calling g mk a) hst h.2.2.1 (State.WarmedH.refl U) (Nat.le_refl _) (fun _ _ _ => rfl), h.2.2.2⟩
theorem pc_at {Γ : Gam} {y : Mth} {p : Program} {s : State} {m : MethodId} {args : Array Value} {meth : Method} {c : Code} {H : Heap} {locs : List Loc} {μ : Mem} (hc : Ctx Γ y p s m args meth c) (hS : va_S (fun q => gB Γ ≤ q) s.heap H locs) (hD : Wd Γ μ H) {av : List Value} {U : State} (hU : U.heap = H) (hW : s.WarmedH U.vm) : va_Pc av (fun U => Wd Γ μ U.heap ∧ KK Γ U ∧ gB Γ ≤ U.heap.size) av.toArray U :=
  ⟨rfl, by rw [hU]; exact hD, kk_to hc.2.2.2.2.2.2.2.2.2.1 hc.2.2.2.2.2.2.2.2.1 hW (by rw [hU]; exact hS.1) (fun q h1 h2 => by rw [hU]; exact hS.2.1 q h1 h2), by rw [hU]; exact Nat.le_trans hc.2.2.2.2.2.2.2.2.2.2.1 hS.1⟩
/-- behind a call -/
theorem w_back {Γ : Gam} {p : Program} {e : Env} {R : Room} {s : State} {m : MethodId} {args : Array Value} {below : List Frame} {meth : Method} {c : Code} {H : Heap} {locs : List Loc} {Q : State → Prop} {pc : Nat} {ls : Array Slot} {st0 rest : List Value} {a : Array Value} {μ μ1 : Mem} {x0 s0 : Nat} {v : Option Value}
    (hr : va_Run p (gL Γ) e R s m args below meth c H locs (mX μ - x0) (mS μ - s0) (mX μ1 - mX μ) (mS μ1 - mS μ) (F0 m pc ls st0) rest (Qo Γ v μ1 a) (fun q => gB Γ ≤ q)) (hS : va_S (fun q => gB Γ ≤ q) s.heap H locs) (g1 : x0 ≤ mX μ) (g2 : s0 ≤ mS μ) (hm : mX μ ≤ mX μ1 ∧ mS μ ≤ mS μ1)
    (kk : ∀ (H' : Heap) (locs' : List Loc), va_S (fun q => gB Γ ≤ q) s.heap H' locs' → Wd Γ μ1 H' → W p (gL Γ) e R s m args below meth c H' locs' (mX μ1 - x0) (mS μ1 - s0) Q (F0 m (pc + 3) ls (v.toList ++ rest))) : W p (gL Γ) e R s m args below meth c H locs (mX μ - x0) (mS μ - s0) Q (F0 m pc ls st0) := by
  intro T hT X
  obtain ⟨v', st₀, t, T', L, h0, X', hL, e1, e2, ⟨hv, hWd, hF⟩, stp⟩ := hr T hT X
  cases hv
  rw [show mX μ - x0 + (mX μ1 - mX μ) = mX μ1 - x0 by omega, show mS μ - s0 + (mS μ1 - mS μ) = mS μ1 - s0 by omega] at X'
  rw [← e1] at hWd
  have hS' : va_S (fun q => gB Γ ≤ q) s.heap T'.heap (locs ++ L) := by
    refine ⟨?_, fun q h1 h2 => ?_, fun q hq => ?_⟩
    · rw [e1]; exact Nat.le_trans hS.1 (by rw [← h0]; exact hF.1)
    · rw [e1, hF.2 q (by rw [h0]; exact Nat.lt_of_lt_of_le h1 hS.1) h2, h0]
      exact hS.2.1 q h1 h2
    · rcases List.mem_append.mp hq with h | h
      · exact hS.2.2 q h
      · exact hL q h
  obtain ⟨t2, a1, b1⟩ := kk T'.heap (locs ++ L) hS' hWd T' rfl X'
  exact ⟨t2, stp t2 a1, b1⟩
/-- a callee's words and room, decided once a callee -/
def CY (yc : Mth) (n : Nat) : Prop := Cond.code yc.1 yc.2.1 yc.2.2.1 yc.2.2.2 ∈ lw_g ∧ Cond.initialized yc.1.cls ∈ lw_g ∧ (yc.1.cls ≠ "java/lang/invoke/MethodHandle" ∧ yc.1.cls ≠ "java/lang/invoke/VarHandle" ∧ (parseMethodDescriptor yc.1.desc).map (fun d => d.parameters.length) = some n) ∧ yc.2.2.1 ≤ 40
theorem wsy_good {yc : Mth} {n : Nat} (h : CY yc n) : GoodIn lw_g (wsy yc) := fun w hw => by
  rcases List.mem_cons.mp hw with rfl | hw
  · exact ⟨h.1, good_of_word (lw_g_good _ h.1)⟩
  · exact ⟨hw, good_of_word (lw_g_good _ hw)⟩
theorem cy_callB {Γ : Gam} {y yc : Mth} {p : Program} {s : State} {m : MethodId} {args : Array Value} {meth : Method} {c : Code} {n idx d dc c1 s1 c2 s2 : Nat} (hc : Ctx Γ y p s m args meth c) (h : CY yc n) (hl : Cond.methodLink y.1.cls idx yc.1 ∈ lw_g) (hdep : dc + 1 ≤ d) : CallB (rmo d c2 s2) s args y.1.cls idx yc.1 yc.2.1 yc.2.2.1 yc.2.2.2 (wsy yc) (rmo dc c1 s1) c1 s1 n :=
  callB_of n hc.2.2.2.2.2.1 (wsy_good h) rfl rfl rfl (hc.2.2.2.2.2.1 _ h.2.1) (hc.2.2.2.2.2.1 _ hl) h.2.2.1 ⟨hdep, by
    have h4 := h.2.2.2
    show 8 + (yc.2.2.1 + 11) + 64 * dc ≤ 64 * d
    omega⟩
theorem ok_callV {α : Type} {Γ : Gam} {y : Mth} {d : Nat} {rv : Rv α} {pc : Nat} {lv : List (Nat × Value)} {st : List Value} {β : Type} {F : β → M α} {G : Nat → M β} {yc : Mth} {dc : Nat} {rvc : β → Option Value} {r : Option Nat} {idx cn : Nat} {C : String} {T : u_T} {N : Nat} (As rest : List Value) (hC : ∀ b : Nat, Ct Γ yc dc rvc (va_rf (some b) :: As) (G b)) (hcl : vcl[cn]? = some (C, T, N)) (hy : CY yc As.length)
    (w1 : Cond.methodLink y.1.cls idx yc.1 ∈ lw_g) (w2 : Cond.instanceMethod yc.1 ∈ lw_g) (w3 : Cond.selects C yc.1 yc.1 ∈ lw_g) (hdep : dc + 1 ≤ d) (hrest : rest.length ≤ 4) (hst : st = As.reverse ++ va_rf r :: rest) (hd : decode y.2.1 pc = .ok (.invokevirtual idx, 3)) (kk : ∀ x : β, Ok Γ y d rv (pc + 3) lv ((rvc x).toList ++ rest) (F x)) : Ok Γ y d rv pc lv st (bn (pRc cn r) fun b => bn (G b) F) := by
  subst hst
  intro μ w μ' h
  obtain ⟨b, μ0, h1, h2⟩ := bn_some h
  obtain ⟨b', rfl, hK, e⟩ := pRc_some h1
  cases e
  obtain ⟨x, μ1, h3, h4⟩ := bn_some h2
  have hk := kk x μ1 w μ' h4
  have hg := hC b μ x μ1 h3
  refine ⟨⟨Nat.le_trans hg.1.1 hk.1.1, Nat.le_trans hg.1.2 hk.1.2⟩, ?_⟩
  intro p e s m args below meth c x0 s0 H locs ls hc g1 g2 hS hD hl
  have hM := hg.2 hc.2.2.2.2.2.2.2.2.2.1
  obtain ⟨cell, q1, q2, q3, -⟩ := (hD.2.2 b (by omega)).1.2.1 cn _ hK hcl
  have hCA := (hc.2.2.2.2.2.2.2.2.1.1.1 cn _ hcl).2
  have hsum := cat_sum rest
  refine w_back (a := (Value.ref b :: As).toArray) (va_runV (As := As) (rest := rest) (b := b) ⟨hc.1, hc.2.1, hc.2.2.2.1, hc.2.2.2.2.1, hc.2.2.2.2.2.1⟩ hM ⟨cy_callB hc hy w1 hdep, hc.2.2.2.2.2.1 _ w2, hc.2.2.2.2.2.1 _ w3⟩ ⟨pc_blind hc.2.2.2.2.2.2.2.2.2.1 _ _, ⟨cell, q1, by rw [q3]; rfl, by rw [q2]; exact hCA.1⟩, fun U hU hW => pc_at hc hS hD hU hW⟩ rfl rfl hl.1 rfl (by show 2 * 0 + _ ≤ 8; omega) hd ⟨by show _ ≤ mX μ' - x0; omega, by show _ ≤ mS μ' - s0; omega⟩) hS g1 g2 hg.1 ?_
  intro H' locs' hS' hD'
  exact hk.2 p e s m args below meth c x0 s0 H' locs' ls hc (by omega) (by omega) hS' hD' hl
theorem ok_callS {α : Type} {Γ : Gam} {y : Mth} {d : Nat} {rv : Rv α} {pc : Nat} {lv : List (Nat × Value)} {st : List Value} {β : Type} {F : β → M α} {G : M β} {yc : Mth} {dc : Nat} {rvc : β → Option Value} {idx : Nat} (As rest : List Value) (hC : Ct Γ yc dc rvc As G) (hy : CY yc As.length)
    (w1 : Cond.methodLink y.1.cls idx yc.1 ∈ lw_g) (w2 : Cond.static yc.1 ∈ lw_g) (hdep : dc + 1 ≤ d) (hrest : rest.length ≤ 4) (hst : st = As.reverse ++ rest) (hd : decode y.2.1 pc = .ok (.invokestatic idx, 3)) (kk : ∀ x : β, Ok Γ y d rv (pc + 3) lv ((rvc x).toList ++ rest) (F x)) : Ok Γ y d rv pc lv st (bn G F) := by
  subst hst
  intro μ w μ' h
  obtain ⟨x, μ1, h3, h4⟩ := bn_some h
  have hk := kk x μ1 w μ' h4
  have hg := hC μ x μ1 h3
  refine ⟨⟨Nat.le_trans hg.1.1 hk.1.1, Nat.le_trans hg.1.2 hk.1.2⟩, ?_⟩
  intro p e s m args below meth c x0 s0 H locs ls hc g1 g2 hS hD hl
  have hM := hg.2 hc.2.2.2.2.2.2.2.2.2.1
  have hsum := cat_sum rest
  refine w_back (a := As.toArray) (va_runS (As := As) (rest := rest) ⟨hc.1, hc.2.1, hc.2.2.2.1, hc.2.2.2.2.1, hc.2.2.2.2.2.1⟩ hM ⟨cy_callB hc hy w1 hdep, hc.2.2.2.2.2.1 _ w2⟩ ⟨pc_blind hc.2.2.2.2.2.2.2.2.2.1 _ _, fun U hU hW => pc_at hc hS hD hU hW⟩ rfl rfl hl.1 rfl (by show 2 * 0 + _ ≤ 8; omega) hd ⟨by show _ ≤ mX μ' - x0; omega, by show _ ≤ mS μ' - s0; omega⟩) hS g1 g2 hg.1 ?_
  intro H' locs' hS' hD'
  exact hk.2 p e s m args below meth c x0 s0 H' locs' ls hc (by omega) (by omega) hS' hD' hl
/-- a constructor; the receiver is any cell (an object that was just made) -/
theorem ok_callI {α : Type} {Γ : Gam} {y : Mth} {d : Nat} {rv : Rv α} {pc : Nat} {lv : List (Nat × Value)} {st : List Value} {F : M α} {G : Nat → M Unit} {yc : Mth} {dc : Nat} {r : Option Nat} {idx cn : Nat} (As rest : List Value) (hC : ∀ b : Nat, Ct Γ yc dc vV (va_rf (some b) :: As) (G b)) (hy : CY yc As.length) (hret : yc.2.2.2 = none) (hn : yc.1.name = "<init>")
    (w1 : Cond.methodLink y.1.cls idx yc.1 ∈ lw_g) (w2 : Cond.instanceMethod yc.1 ∈ lw_g) (hdep : dc + 1 ≤ d) (hrest : rest.length ≤ 4) (hst : st = As.reverse ++ va_rf r :: rest) (hd : decode y.2.1 pc = .ok (.invokespecial idx, 3)) (kk : Ok Γ y d rv (pc + 3) lv rest F) : Ok Γ y d rv pc lv st (bn (pRc cn r) fun b => bn (G b) fun _ => F) := by
  subst hst
  intro μ w μ' h
  obtain ⟨b, μ0, h1, h2⟩ := bn_some h
  obtain ⟨b', rfl, hK, e⟩ := pRc_some h1
  cases e
  obtain ⟨x, μ1, h3, h4⟩ := bn_some h2
  have hk := kk μ1 w μ' h4
  have hg := hC b μ x μ1 h3
  refine ⟨⟨Nat.le_trans hg.1.1 hk.1.1, Nat.le_trans hg.1.2 hk.1.2⟩, ?_⟩
  intro p e s m args below meth c x0 s0 H locs ls hc g1 g2 hS hD hl
  have hM := hg.2 hc.2.2.2.2.2.2.2.2.2.1
  have hsum := cat_sum rest
  have hB := cy_callB (c1 := mX μ1 - mX μ) (s1 := mS μ1 - mS μ) (c2 := mX μ' - x0) (s2 := mS μ' - s0) hc hy w1 hdep
  rw [hret] at hB
  refine w_back (a := (Value.ref b :: As).toArray) (va_runI (As := As) (rest := rest) (b := b) ⟨hc.1, hc.2.1, hc.2.2.2.1, hc.2.2.2.2.1, hc.2.2.2.2.2.1⟩ hM ⟨hB, hn, hc.2.2.2.2.2.1 _ w2⟩ ⟨pc_blind hc.2.2.2.2.2.2.2.2.2.1 _ _, fun U hU hW => pc_at hc hS hD hU hW⟩ rfl rfl hl.1 rfl (by show 2 * 0 + _ ≤ 8; omega) hd ⟨by show _ ≤ mX μ' - x0; omega, by show _ ≤ mS μ' - s0; omega⟩) hS g1 g2 hg.1 ?_
  intro H' locs' hS' hD'
  exact hk.2 p e s m args below meth c x0 s0 H' locs' ls hc (by omega) (by omega) hS' hD' hl
/-- a nest mate's private constructor -/
theorem ok_callIN {α : Type} {Γ : Gam} {y : Mth} {d : Nat} {rv : Rv α} {pc : Nat} {lv : List (Nat × Value)} {st : List Value} {F : M α} {G : Nat → M Unit} {yc : Mth} {dc : Nat} {r : Option Nat} {idx cn : Nat} {host : String} (As rest : List Value) (hC : ∀ b : Nat, Ct Γ yc dc vV (va_rf (some b) :: As) (G b)) (hy : CY yc As.length) (hret : yc.2.2.2 = none) (hn : yc.1.name = "<init>")
    (w1 : Cond.methodLinkNest y.1.cls idx yc.1 host ∈ lw_nn) (w2 : Cond.instanceMethod yc.1 ∈ lw_g) (hdep : dc + 1 ≤ d) (hrest : rest.length ≤ 4) (hst : st = As.reverse ++ va_rf r :: rest) (hd : decode y.2.1 pc = .ok (.invokespecial idx, 3)) (kk : Ok Γ y d rv (pc + 3) lv rest F) : Ok Γ y d rv pc lv st (bn (pRc cn r) fun b => bn (G b) fun _ => F) := by
  subst hst
  intro μ w μ' h
  obtain ⟨b, μ0, h1, h2⟩ := bn_some h
  obtain ⟨b', rfl, hK, e⟩ := pRc_some h1
  cases e
  obtain ⟨x, μ1, h3, h4⟩ := bn_some h2
  have hk := kk μ1 w μ' h4
  have hg := hC b μ x μ1 h3
  refine ⟨⟨Nat.le_trans hg.1.1 hk.1.1, Nat.le_trans hg.1.2 hk.1.2⟩, ?_⟩
  intro p e s m args below meth c x0 s0 H locs ls hc g1 g2 hS hD hl
  have hM := hg.2 hc.2.2.2.2.2.2.2.2.2.1
  have hsum := cat_sum rest
  have h40 := hy.2.2.2
  have hB := va_cnB (R := rmo d (mX μ' - x0) (mS μ' - s0)) (rm := rmo dc (mX μ1 - mX μ) (mS μ1 - mS μ)) (ret := yc.2.2.2) (maxL := yc.2.2.1) (bytes := yc.2.1) (ws' := lw_g) As.length hc.2.2.2.2.2.1 (wsy_good hy) rfl rfl rfl (hc.2.2.2.2.2.2.2.2.1.2.1 _ w1) (hc.2.2.2.2.2.1 _ hy.2.1) hy.2.2.1 ⟨hdep, by show 8 + (yc.2.2.1 + 11) + 64 * dc ≤ 64 * d; omega⟩
  rw [hret] at hB
  refine w_back (a := (Value.ref b :: As).toArray) (va_runIN (As := As) (rest := rest) (b := b) ⟨hc.1, hc.2.1, hc.2.2.2.1, hc.2.2.2.2.1, hc.2.2.2.2.2.1⟩ hM ⟨hB, hn, hc.2.2.2.2.2.1 _ w2⟩ ⟨pc_blind hc.2.2.2.2.2.2.2.2.2.1 _ _, fun U hU hW => pc_at hc hS hD hU hW⟩ rfl rfl hl.1 rfl (by show 2 * 0 + _ ≤ 8; omega) hd ⟨by show _ ≤ mX μ' - x0; omega, by show _ ≤ mS μ' - s0; omega⟩) hS g1 g2 hg.1 ?_
  intro H' locs' hS' hD'
  exact hk.2 p e s m args below meth c x0 s0 H' locs' ls hc (by omega) (by omega) hS' hD' hl
/-- what a body's table of handlers is -/
theorem ctx_tab {l : Launch} {p : Program} {y : Mth} {S : Spec} {e : Env} {s s₁ : State} {m : MethodId} {args : Array Value} {below : List Frame} {meth : Method} {c : Code} {ws : List Cond} (B : BodyLoose p l y.1 S y.2.1 y.2.2.1 y.2.2.2 e s m args below meth c s₁) (hts : ∀ w ∈ ws, w.before args s = true) (hsub : ∀ w ∈ lw_g, w ∈ ws := by exact fun w hw => List.mem_cons_of_mem _ hw) : (Cond.code y.1 y.2.1 y.2.2.1 y.2.2.2 ∈ lw_g → c.exceptionTable.toList = []) ∧ ∀ hh, Cond.codeWith y.1 y.2.1 y.2.2.1 y.2.2.2 hh ∈ lw_g → c.exceptionTable.toList = tableOf hh := by
  refine ⟨fun hw => ?_, fun hh hw => ?_⟩
  · obtain ⟨meth9, c9, h1, h2, -, -, -, -, h7, -⟩ := Cond.code_spec B.named (hts _ (hsub _ hw))
    cases Option.some.inj (h1.symm.trans B.method)
    cases Option.some.inj (h2.symm.trans (Stand.of_body B).code)
    rw [Array.isEmpty_iff.mp h7]
  · obtain ⟨m9, meth9, c9, hn9, h1, h2, -, -, h6, -⟩ := Cond.codeWith_spec (hts _ (hsub _ hw))
    cases Option.some.inj (hn9.symm.trans B.named)
    cases Option.some.inj (h1.symm.trans B.method)
    cases Option.some.inj (h2.symm.trans (Stand.of_body B).code)
    rw [← h6, table_eq]
/-- a method's contract out of the walk of its body -/
theorem ct_of {α : Type} {Γ : Gam} {y : Mth} {d : Nat} {rv : α → Option Value} {av : List Value} {F : M α} (hp : plainName y.1.cls = true) (hlen : (lg_sl av).length ≤ y.2.2.1) (k : Ok Γ y d (qo Γ rv) 0 (lv_args 0 av) [] F) : Ct Γ y d rv av F := by
  intro μ x μ' h
  refine ⟨(k μ x μ' h).1, fun hst => ?_⟩
  have hm := (k μ x μ' h).1
  refine Met.ofW (cc := y.2.1) (maxL := y.2.2.1) (ret := y.2.2.2) hp rfl ?_
  intro p e s m args below meth c s₁ B hml hv
  obtain ⟨rfl, hD, hKK, hb⟩ := hv
  have hts := atoms_spec (ws := wsy y) B.pre
  have hc : Ctx Γ y p s m av.toArray meth c := ⟨B.exec, B.bytes, B.returns, hml, findClass_of_methodNamed B.named, fun w hw => hts w (List.mem_cons_of_mem _ hw), B.notSynchronized, (name_of_methodNamed B.named B.method).1, hKK, hst, hb, ctx_tab B hts⟩
  have hl := lv_entry av (n := y.2.2.1) hlen
  rw [lg_entry_eq]
  have hW := (k μ x μ' h).2 p e s m av.toArray below meth c (mX μ) (mS μ) s.heap [] _ hc (Nat.le_refl _) (Nat.le_refl _) va_S.rf hD hl
  rw [Nat.sub_self, Nat.sub_self] at hW
  exact hW
