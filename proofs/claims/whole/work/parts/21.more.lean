theorem ok_i2b {α : Type} {Γ : Gam} {y : Mth} {d : Nat} {rv : Rv α} {pc : Nat} {lv : List (Nat × Value)} {st : List Value} {F : M α} {x : Int32} (hd : decode y.2.1 pc = .ok (.i2b, 1)) (k : Ok Γ y d rv (pc + 1) lv (.int x.toInt8.toInt32 :: st) F) : Ok Γ y d rv pc lv (.int x :: st) F :=
  ok_of (fun hc hl kk => lv_i2b hc.1 hc.2.1 hd rfl (kk _ hl)) k
def rb (v : Int32) : M Int32 := fun μ => if vp_nar .byte v = v then some (v, μ) else none
def rch (v : Int32) : M Int32 := fun μ => if vp_nar .char v = v then some (v, μ) else none
theorem ok_breturn {Γ : Gam} {y : Mth} {d pc : Nat} {lv : List (Nat × Value)} {x : Int32} (hd : decode y.2.1 pc = .ok (.ireturn, 1)) (hr : y.2.2.2 = some .byte) : Ok Γ y d (qo Γ vI) pc lv [.int x] (rb x) := by
  intro μ w μ' h
  unfold rb at h
  by_cases hx : vp_nar .byte x = x
  · rw [if_pos hx] at h
    cases h
    refine ⟨⟨Nat.le_refl _, Nat.le_refl _⟩, ?_⟩
    intro p e s m args below meth c x0 s0 H locs ls hc h1 h2 hS hD hl
    exact W.zret hc.1 hc.2.1 (hc.2.2.1.trans hr) (by have z := hx; unfold vp_nar at z; simp only [narrow] at z ⊢; rw [z]) (fun t ht _ => qo_end hS hD ht) (fun q hq => hS.2.2 q hq) hd hc.2.2.2.2.2.2.1
  · rw [if_neg hx] at h
    cases h
theorem ok_creturn {Γ : Gam} {y : Mth} {d pc : Nat} {lv : List (Nat × Value)} {x : Int32} (hd : decode y.2.1 pc = .ok (.ireturn, 1)) (hr : y.2.2.2 = some .char) : Ok Γ y d (qo Γ vI) pc lv [.int x] (rch x) := by
  intro μ w μ' h
  unfold rch at h
  by_cases hx : vp_nar .char x = x
  · rw [if_pos hx] at h
    cases h
    refine ⟨⟨Nat.le_refl _, Nat.le_refl _⟩, ?_⟩
    intro p e s m args below meth c x0 s0 H locs ls hc h1 h2 hS hD hl
    exact W.zret hc.1 hc.2.1 (hc.2.2.1.trans hr) (by have z := hx; unfold vp_nar at z; simp only [narrow] at z ⊢; rw [z]) (fun t ht _ => qo_end hS hD ht) (fun q hq => hS.2.2 q hq) hd hc.2.2.2.2.2.2.1
  · rw [if_neg hx] at h
    cases h
theorem ct_fl {α : Type} {Γ : Gam} {y : Mth} {d : Nat} {rv : α → Option Value} {av : List Value} : Ct Γ y d rv av fl := fun _ _ _ h => nomatch h
theorem ok_callV8 {α : Type} {Γ : Gam} {y : Mth} {d : Nat} {rv : Rv α} {pc : Nat} {lv : List (Nat × Value)} {st : List Value} {β : Type} {F : β → M α} {G : Nat → M β} {yc : Mth} {dc : Nat} {rvc : β → Option Value} {r : Option Nat} {idx cn : Nat} {C : String} {T : u_T} {N : Nat} (As rest : List Value) (hC : ∀ b : Nat, Ct Γ yc dc rvc (va_rf (some b) :: As) (G b)) (hcl : vcl[cn]? = some (C, T, N)) (hy : CY yc As.length)
    (w1 : Cond.methodLink y.1.cls idx yc.1 ∈ lw_g) (w2 : Cond.instanceMethod yc.1 ∈ lw_g) (w3 : Cond.selects C yc.1 yc.1 ∈ lw_g) (hdep : dc + 1 ≤ d) (hrest : (rest.map fun v => v.category).sum ≤ 8) (hst : st = As.reverse ++ va_rf r :: rest) (hd : decode y.2.1 pc = .ok (.invokevirtual idx, 3)) (kk : ∀ x : β, Ok Γ y d rv (pc + 3) lv ((rvc x).toList ++ rest) (F x)) : Ok Γ y d rv pc lv st (bn (pRc cn r) fun b => bn (G b) F) := by
  subst hst
  intro μ w μ' h
  obtain ⟨b, μ0, h1, h2⟩ := bn_some h
  obtain ⟨b', rfl, hK, e⟩ := pRc_some h1
  cases e
  obtain ⟨x, μ1, h3, h4⟩ := bn_some h2
  have hk := kk x μ1 w μ' h4
  have hg := hC b μ x μ1 h3
  refine ⟨⟨Nat.le_trans hg.1.1 hk.1.1, Nat.le_trans hg.1.2 hk.1.2⟩, ?_⟩
  intro p e s m args below meth c x0 s0 H locs ls hc g1 g2 hS hD hl
  have hM := hg.2 hc.2.2.2.2.2.2.2.2.2.1
  obtain ⟨cell, q1, q2, q3, -⟩ := (hD.2.2 b (by omega)).1.2.1 cn _ hK hcl
  have hCA := (hc.2.2.2.2.2.2.2.2.1.1.1 cn _ hcl).2
  have hsum := cat_sum rest
  refine w_back (a := (Value.ref b :: As).toArray) (va_runV (As := As) (rest := rest) (b := b) ⟨hc.1, hc.2.1, hc.2.2.2.1, hc.2.2.2.2.1, hc.2.2.2.2.2.1⟩ hM ⟨cy_callB hc hy w1 hdep, hc.2.2.2.2.2.1 _ w2, hc.2.2.2.2.2.1 _ w3⟩ ⟨pc_blind hc.2.2.2.2.2.2.2.2.2.1 _ _, ⟨cell, q1, by rw [q3]; rfl, by rw [q2]; exact hCA.1⟩, fun U hU hW => pc_at hc hS hD hU hW⟩ rfl rfl hl.1 rfl (by show 2 * 0 + _ ≤ 8; omega) hd ⟨by show _ ≤ mX μ' - x0; omega, by show _ ≤ mS μ' - s0; omega⟩) hS g1 g2 hg.1 ?_
  intro H' locs' hS' hD'
  exact hk.2 p e s m args below meth c x0 s0 H' locs' ls hc (by omega) (by omega) hS' hD' hl
theorem ok_callVI8 {α : Type} {Γ : Gam} {y : Mth} {d : Nat} {rv : Rv α} {pc : Nat} {lv : List (Nat × Value)} {st : List Value} {F : Int32 → M α} {G : Nat → M Int32} {yc : Mth} {dc : Nat} {r : Option Nat} {idx cn : Nat} {C : String} {T : u_T} {N : Nat} (As rest : List Value) (hC : ∀ b : Nat, Ct Γ yc dc vI (va_rf (some b) :: As) (G b)) (hcl : vcl[cn]? = some (C, T, N)) (hy : CY yc As.length)
    (w1 : Cond.methodLink y.1.cls idx yc.1 ∈ lw_g) (w2 : Cond.instanceMethod yc.1 ∈ lw_g) (w3 : Cond.selects C yc.1 yc.1 ∈ lw_g) (hdep : dc + 1 ≤ d) (hrest : (rest.map fun v => v.category).sum ≤ 8) (hst : st = As.reverse ++ va_rf r :: rest) (hd : decode y.2.1 pc = .ok (.invokevirtual idx, 3)) (kk : ∀ x : Int32, Ok Γ y d rv (pc + 3) lv (.int x :: rest) (F x)) : Ok Γ y d rv pc lv st (bn (pRc cn r) fun b => bn (G b) F) :=
  ok_callV8 As rest hC hcl hy w1 w2 w3 hdep hrest hst hd kk
theorem ok_callVR8 {α : Type} {Γ : Gam} {y : Mth} {d : Nat} {rv : Rv α} {pc : Nat} {lv : List (Nat × Value)} {st : List Value} {F : Option Nat → M α} {G : Nat → M (Option Nat)} {yc : Mth} {dc : Nat} {r : Option Nat} {idx cn : Nat} {C : String} {T : u_T} {N : Nat} (As rest : List Value) (hC : ∀ b : Nat, Ct Γ yc dc vP (va_rf (some b) :: As) (G b)) (hcl : vcl[cn]? = some (C, T, N)) (hy : CY yc As.length)
    (w1 : Cond.methodLink y.1.cls idx yc.1 ∈ lw_g) (w2 : Cond.instanceMethod yc.1 ∈ lw_g) (w3 : Cond.selects C yc.1 yc.1 ∈ lw_g) (hdep : dc + 1 ≤ d) (hrest : (rest.map fun v => v.category).sum ≤ 8) (hst : st = As.reverse ++ va_rf r :: rest) (hd : decode y.2.1 pc = .ok (.invokevirtual idx, 3)) (kk : ∀ x : Option Nat, Ok Γ y d rv (pc + 3) lv (va_rf x :: rest) (F x)) : Ok Γ y d rv pc lv st (bn (pRc cn r) fun b => bn (G b) F) :=
  ok_callV8 As rest hC hcl hy w1 w2 w3 hdep hrest hst hd kk
