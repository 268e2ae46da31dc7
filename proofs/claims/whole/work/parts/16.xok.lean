abbrev NSE : String := "java/util/NoSuchElementException"
abbrev NSN : List String := ["java/lang/RuntimeException", "java/lang/Exception"]
/-- a method that returns, or throws NoSuchElementException -/
def QX {α : Type} (Γ : Gam) (rv : α → Option Value) (x : Option α) (μ' : Mem) : Array Value → State → Outcome → State → Prop := fun a st o t => ∃ v, x = some v ∧ Qo Γ (rv v) μ' a st o t
def XX {α : Type} (Γ : Gam) (x : Option α) (μ' : Mem) : String → State → State → Prop := fun E st t => x = none ∧ E = NSE ∧ Wd Γ μ' t.heap ∧ va_F (fun q => gB Γ ≤ q) st t
def qx {α : Type} (Γ : Gam) (rv : α → Option Value) : Rv (Option α) := fun x μ' below args s mc ms => vx_MQ below (QX Γ rv x μ') (XX Γ x μ') args s mc ms (fun q => gB Γ ≤ q)
def XE (Γ : Gam) (U : State) : Prop := vx_Zq Bundle.tN "UNASSIGNED_STACK" Bundle.steD (fun q => gB Γ ≤ q) U U.heap ∧ vx_Zq Bundle.tN "SUPPRESSED_SENTINEL" Bundle.listD (fun q => gB Γ ≤ q) U U.heap ∧
  (∃ a, vk_R "GrainPit" 76 "no such name or day" a U) ∧ (∃ a, vk_R "GrainPit" 102 "no such member or payment" a U) ∧ (∃ a, vk_R "GrainPit" 219 "no such member or look" a U) ∧ (∃ a, vk_R "GrainPit" 238 "no such member or month" a U) ∧ (∃ a, vk_R "GrainPit" 346 "no such member or day" a U)
/-- what the throws ask of the launch and of the outside -/
def GX (Γ : Gam) : Prop := (gL Γ).stackTraces = false ∧ ∀ U, gE Γ U → XE Γ U
def nE (μ : Mem) : Mem := (mI μ, mL μ, mP μ, aI μ, aL μ, aP μ, mK μ, mN μ, mX μ + 1, mS μ + 6, mT μ)
def thr {α : Type} : M (Option α) := fun μ => some (none, nE μ)
theorem nn_use {w : Cond} {args : Array Value} {s : State} (hw : nnw w = true) (h : va_Nw w s) : w.before args s = true := by
  cases w <;> first
    | (simp [nnw] at hw; done)
    | exact va_Nw.use rfl h
    | exact h
theorem wd_nE {Γ : Gam} {μ : Mem} {H H' : Heap} (hD : Wd Γ μ H) (e2 : H'.size = H.size + 1) (e3 : ∀ q, q < H.size → H'[q]? = H[q]?) : Wd Γ (nE μ) H' := by
  refine ⟨by rw [e2, hD.1]; rfl, hD.2.1, fun a ha => ?_⟩
  obtain ⟨⟨hlt, hat⟩, hb⟩ := hD.2.2 a ha
  refine ⟨⟨by omega, fun c q hc hq => (hat.1 c q hc hq).kept (e3 a hlt), fun h => ?_⟩, hb⟩
  rw [e3 a hlt]
  exact hat.2 h
theorem ok_thr {α : Type} {Γ : Gam} {y : Mth} {d : Nat} {rvx : α → Option Value} {pc : Nat} {lv : List (Nat × Value)} {st : List Value} (hG : GX Γ) {ik is ic : Nat} {text : String} (hy : y.1.cls = "GrainPit") (hcode : Cond.code y.1 y.2.1 y.2.2.1 y.2.2.2 ∈ lw_g)
    (w1 : Cond.classLink "GrainPit" ik NSE ∈ lw_g) (w2 : Cond.initialized NSE ∈ lw_g) (hstr : ∀ U, XE Γ U → ∃ a, vk_R "GrainPit" is text a U) (h1 : ∀ w ∈ (vx_atS "GrainPit" ic NSE NSN).filter goodWord, w ∈ lw_g) (h2 : ∀ w ∈ (vx_atS "GrainPit" ic NSE NSN).filter (fun w => !goodWord w), w ∈ lw_nn)
    (hgood : ∀ w ∈ Cond.classLink "GrainPit" ik NSE :: Cond.initialized NSE :: vx_atS "GrainPit" ic NSE NSN, vx_ot w = true) (hdep : 6 ≤ d) (hst : st.length ≤ 10)
    (d0 : decode y.2.1 pc = .ok (.new ik, 3)) (d3 : decode y.2.1 (pc + 3) = .ok (.dup, 1)) (d4 : decode y.2.1 (pc + 4) = .ok (.ldc is, 2)) (d6 : decode y.2.1 (pc + 6) = .ok (.invokespecial ic, 3)) (d9 : decode y.2.1 (pc + 9) = .ok (.athrow, 1)) : Ok Γ y d (qx Γ rvx) pc lv st thr := by
  intro μ x μ' h
  cases h
  refine ⟨⟨Nat.le_succ _, Nat.le_add_right _ _⟩, ?_⟩
  intro p e s m args below meth c x0 s0 H locs ls hc g1 g2 hS hD hl
  have hts := hc.2.2.2.2.2.1
  have hXE := hG.2 s hc.2.2.2.2.2.2.2.2.1.2.2.2.2.2.2.2
  obtain ⟨sa, hsa⟩ := hstr s hXE
  have htab := hc.2.2.2.2.2.2.2.2.2.2.2.1 hcode
  have hz := cat_sum st
  have m1 : mX (nE μ) = mX μ + 1 := rfl
  have m2 : mS (nE μ) = mS μ + 6 := rfl
  have hat : ∀ w ∈ vx_atS "GrainPit" ic NSE NSN, w.before args s = true := fun w hw => by
    by_cases hg : goodWord w = true
    · exact hts _ (h1 w (List.mem_filter.mpr ⟨hw, hg⟩))
    · have hn := h2 w (List.mem_filter.mpr ⟨hw, by simp [hg]⟩)
      exact nn_use (List.mem_filter.mp hn).2 (hc.2.2.2.2.2.2.2.2.1.2.1 w hn)
  refine vx_throwSE (A := fun q => gB Γ ≤ q) (own := "GrainPit") (names := NSN) hc.1 hc.2.1 hG.1 (by rw [← hy]; exact hc.2.2.2.2.1) (by decide) (by decide) (hts _ w1) (hts _ w2) hsa hat hgood hXE.1 hXE.2.1 hS (by rw [hl.1, hc.2.2.2.1]) d0 d3 d4 d6 d9 (by rw [htab]; exact fun x hx => nomatch hx) (by show 2 + 3 < d; omega) (by show _ + (13 * (2 + 1) + 43) ≤ 64 * d; omega) (by show _ ≤ mX (nE μ) - x0; rw [m1]; omega) (by show _ ≤ mS (nE μ) - s0; rw [m2]; omega) hc.2.2.2.2.2.2.1 ?_ (fun q hq => hS.2.2 q hq) (by rw [m1]; omega) (by rw [m2]; omega)
  intro t hal hsz hold
  refine ⟨rfl, rfl, wd_nE hD hsz hold, ?_⟩
  exact ⟨Nat.le_trans hS.1 (by omega), fun q hq1 hq2 => (hold q (Nat.lt_of_lt_of_le hq1 hS.1)).trans (hS.2.1 q hq1 hq2)⟩
theorem ok_ireturnX {Γ : Gam} {y : Mth} {d pc : Nat} {lv : List (Nat × Value)} {x : Int32} (hd : decode y.2.1 pc = .ok (.ireturn, 1)) (hr : y.2.2.2 = some .int) : Ok Γ y d (qx Γ vI) pc lv [.int x] (rt (some x)) := by
  intro μ w μ' h
  cases h
  refine ⟨⟨Nat.le_refl _, Nat.le_refl _⟩, ?_⟩
  intro p e s m args below meth c x0 s0 H locs ls hc h1 h2 hS hD hl
  exact vx_ret (W.iret hc.1 hc.2.1 (hc.2.2.1.trans hr) (fun t ht _ => ⟨x, rfl, qo_end hS hD ht⟩) (fun q hq => hS.2.2 q hq) hd hc.2.2.2.2.2.2.1)
theorem ok_lreturnX {Γ : Gam} {y : Mth} {d pc : Nat} {lv : List (Nat × Value)} {x : Int64} (hd : decode y.2.1 pc = .ok (.lreturn, 1)) (hr : y.2.2.2 = some .long) : Ok Γ y d (qx Γ vL) pc lv [.long x] (rt (some x)) := by
  intro μ w μ' h
  cases h
  refine ⟨⟨Nat.le_refl _, Nat.le_refl _⟩, ?_⟩
  intro p e s m args below meth c x0 s0 H locs ls hc h1 h2 hS hD hl
  exact vx_ret (W.lret hc.1 hc.2.1 (hc.2.2.1.trans hr) (fun t ht _ => ⟨x, rfl, qo_end hS hD ht⟩) (fun q hq => hS.2.2 q hq) hd hc.2.2.2.2.2.2.1)
def CtX {α : Type} (Γ : Gam) (y : Mth) (d : Nat) (rv : α → Option Value) (av : List Value) (G : M (Option α)) : Prop :=
  ∀ (μ : Mem) (x : Option α) (μ' : Mem), G μ = some (x, μ') → (mX μ ≤ mX μ' ∧ mS μ ≤ mS μ') ∧
    (Stab Γ → vx_Met (gL Γ) y.1 (wsy y) (rmo d (mX μ' - mX μ) (mS μ' - mS μ)) (va_Pc av (fun U => Wd Γ μ U.heap ∧ KK Γ U ∧ gB Γ ≤ U.heap.size)) (QX Γ rv x μ') (XX Γ x μ') (mX μ' - mX μ) (mS μ' - mS μ) (fun q => gB Γ ≤ q))
theorem ct_inX {α : Type} {Γ : Gam} {y : Mth} {d : Nat} {rv : α → Option Value} {av : List Value} {F : M (Option α)} {lv : List (Nat × Value)} (hp : plainName y.1.cls = true) (hl' : lv_args 0 av = lv) (hlen : (lg_sl av).length ≤ y.2.2.1) (k : Ok Γ y d (qx Γ rv) 0 lv [] F) : CtX Γ y d rv av F := by
  subst hl'
  intro μ x μ' h
  refine ⟨(k μ x μ' h).1, fun hst => ?_⟩
  refine vx_ofW (cc := y.2.1) (maxL := y.2.2.1) (ret := y.2.2.2) hp rfl ?_
  intro p e s m args below meth c s₁ B hml _ hv
  obtain ⟨rfl, hD, hKK, hb⟩ := hv
  have hts := atoms_spec (ws := wsy y) B.pre
  have hc : Ctx Γ y p s m av.toArray meth c := ⟨B.exec, B.bytes, B.returns, hml, findClass_of_methodNamed B.named, fun w hw => hts w (List.mem_cons_of_mem _ hw), B.notSynchronized, (name_of_methodNamed B.named B.method).1, hKK, hst, hb, ctx_tab B hts⟩
  have hl := lv_entry av (n := y.2.2.1) hlen
  rw [lg_entry_eq]
  have hW := (k μ x μ' h).2 p e s m av.toArray below meth c (mX μ) (mS μ) s.heap [] _ hc (Nat.le_refl _) (Nat.le_refl _) va_S.rf hD hl
  rw [Nat.sub_self, Nat.sub_self] at hW
  exact hW
theorem xs_S {Γ : Gam} {s st₀ t T' : State} {H : Heap} {locs L : List Loc} (hS : va_S (fun q => gB Γ ≤ q) s.heap H locs) (e0 : st₀.heap = H) (e1 : T'.heap = t.heap) (hF : va_F (fun q => gB Γ ≤ q) st₀ t) (hL : ∀ q ∈ L, gB Γ ≤ q.base) : va_S (fun q => gB Γ ≤ q) s.heap T'.heap (locs ++ L) := by
  refine ⟨?_, fun q h1 h2 => ?_, fun q hq => ?_⟩
  · rw [e1]; exact Nat.le_trans hS.1 (by rw [← e0]; exact hF.1)
  · rw [e1, hF.2 q (by rw [e0]; exact Nat.lt_of_lt_of_le h1 hS.1) h2, e0]
    exact hS.2.1 q h1 h2
  · rcases List.mem_append.mp hq with h | h
    · exact hS.2.2 q h
    · exact hL q h
/-- a call that may throw, with a handler around it -/
theorem ok_callX {α : Type} {Γ : Gam} {y : Mth} {d : Nat} {rv : Rv α} {pc : Nat} {lv : List (Nat × Value)} {st : List Value} {β : Type} {F : β → M α} {E : M α} {G : Nat → M (Option β)} {yc : Mth} {dc : Nat} {rvc : β → Option Value} {r : Option Nat} {idx cn hpc s0' e0' ct : Nat} {C : String} {T : u_T} {N : Nat} (As rest : List Value) (hC : ∀ b : Nat, CtX Γ yc dc rvc (va_rf (some b) :: As) (G b)) (hcl : vcl[cn]? = some (C, T, N)) (hy : CY yc As.length)
    (w1 : Cond.methodLink y.1.cls idx yc.1 ∈ lw_g) (w2 : Cond.instanceMethod yc.1 ∈ lw_g) (w3 : Cond.selects C yc.1 yc.1 ∈ lw_g) (hdep : dc + 1 ≤ d) (hrest : rest.length ≤ 4) (hst : st = As.reverse ++ va_rf r :: rest) (hd : decode y.2.1 pc = .ok (.invokevirtual idx, 3))
    (w4 : Cond.codeWith y.1 y.2.1 y.2.2.1 y.2.2.2 [(s0', e0', hpc, ct)] ∈ lw_g) (hcov : s0' ≤ pc ∧ pc < e0') (hct : ct ≠ 0) (w5 : Cond.classLink y.1.cls ct NSE ∈ lw_g) (w6 : Cond.castable NSE NSE ∈ lw_nn)
    (kk : ∀ x : β, Ok Γ y d rv (pc + 3) lv ((rvc x).toList ++ rest) (F x)) (kh : ∀ q : Option Nat, Ok Γ y d rv hpc lv [va_rf q] E) : Ok Γ y d rv pc lv st (bn (pRc cn r) fun b => bn (G b) fun o => match o with
      | some x => F x
      | none => E) := by
  subst hst
  intro μ w μ' h
  obtain ⟨b, μ0, h1, h2⟩ := bn_some h
  obtain ⟨b', rfl, hK, e⟩ := pRc_some h1
  cases e
  obtain ⟨x, μ1, h3, h4⟩ := bn_some h2
  have hg := hC b μ x μ1 h3
  have hmono : mX μ1 ≤ mX μ' ∧ mS μ1 ≤ mS μ' := by
    cases x with
    | none => exact (kh none μ1 w μ' h4).1
    | some x => exact (kk x μ1 w μ' h4).1
  refine ⟨⟨Nat.le_trans hg.1.1 hmono.1, Nat.le_trans hg.1.2 hmono.2⟩, ?_⟩
  intro p e s m args below meth c x0 s0 H locs ls hc g1 g2 hS hD hl
  have hM := hg.2 hc.2.2.2.2.2.2.2.2.2.1
  obtain ⟨cell, q1, q2, q3, -⟩ := (hD.2.2 b (by omega)).1.2.1 cn _ hK hcl
  have hCA := (hc.2.2.2.2.2.2.2.2.1.1.1 cn _ hcl).2
  have hsum := cat_sum rest
  have hr := vx_runV (e := e) (below := below) (meth := meth) (locs := locs) (cells := mX μ - x0) (slots := mS μ - s0) (g := F0 m pc ls (As.reverse ++ Value.ref b :: rest)) (As := As) (rest := rest) (b := b) ⟨hc.1, hc.2.1, hc.2.2.2.1, hc.2.2.2.2.1, hc.2.2.2.2.2.1⟩ hM ⟨cy_callB (c2 := mX μ' - x0) (s2 := mS μ' - s0) hc hy w1 hdep, hc.2.2.2.2.2.1 _ w2, hc.2.2.2.2.2.1 _ w3⟩ ⟨pc_blind hc.2.2.2.2.2.2.2.2.2.1 _ _, ⟨cell, q1, by rw [q3]; rfl, by rw [q2]; exact hCA.1⟩, fun U hU hW => pc_at hc hS hD hU hW⟩ rfl rfl hl.1 rfl (by show 2 * 0 + _ ≤ 8; omega) hd ⟨by show _ ≤ mX μ' - x0; omega, by show _ ≤ mS μ' - s0; omega⟩
  intro T hT X
  rcases hr T hT X with ⟨v, st₀, t, T', L, e0, X', hL, e1, e2, ⟨v', hv', hv, hWd, hF⟩, stp⟩ | ⟨q, st₀, t, T', L, E', ce, e0, X', hL, e1, e2, ⟨hv', hE', hWd, hF⟩, hce, hcv, hccl, stp⟩
  · cases hv
    subst hv'
    rw [show mX μ - x0 + (mX μ1 - mX μ) = mX μ1 - x0 by omega, show mS μ - s0 + (mS μ1 - mS μ) = mS μ1 - s0 by omega] at X'
    rw [← e1] at hWd
    have hS' : va_S (fun q => gB Γ ≤ q) s.heap T'.heap (locs ++ L) := xs_S hS e0 e1 hF hL
    obtain ⟨t2, a1, b1⟩ := (kk v' μ1 w μ' h4).2 p e s m args below meth c x0 s0 T'.heap (locs ++ L) ls hc (by omega) (by omega) hS' hWd hl T' rfl X'
    exact ⟨t2, stp t2 a1, b1⟩
  · subst hv'
    subst hE'
    rw [show mX μ - x0 + (mX μ1 - mX μ) = mX μ1 - x0 by omega, show mS μ - s0 + (mS μ1 - mS μ) = mS μ1 - s0 by omega] at X'
    rw [← e1] at hWd hce
    have hS' : va_S (fun q => gB Γ ≤ q) s.heap T'.heap (locs ++ L) := xs_S hS e0 e1 hF hL
    have htab := hc.2.2.2.2.2.2.2.2.2.2.2.2 _ w4
    have hk := vx_catch (e := e) (ls := ls) (rest := rest) (pc := pc) (own := y.1.cls) (name := NSE) (E := NSE) (q := q) hc.2.2.2.2.1 [] ⟨s0', e0', hpc, ct⟩ [] htab (fun z hz => nomatch hz) (by simp [covers]; exact hcov) hct (hc.2.2.2.2.2.1 _ w5) (nn_use (List.mem_filter.mp w6).2 (hc.2.2.2.2.2.2.2.2.1.2.1 _ w6)) hce hcv hccl ((kh (some q) μ1 w μ' h4).2 p e s m args below meth c x0 s0 T'.heap (locs ++ L) ls hc (by omega) (by omega) hS' hWd hl)
    obtain ⟨t2, a1, b1⟩ := hk T' rfl X'
    exact ⟨t2, stp.trans a1, b1⟩
