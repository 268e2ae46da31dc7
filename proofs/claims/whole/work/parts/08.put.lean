/-- a field is written: the world behind it -/
theorem wd_fput {Γ : Gam} {μ μ' : Mem} {H H' : Heap} {a cn k : Nat} {C : String} {T : u_T} {N : Nat} {v : Value} {cell : Cell} (hD : Wd Γ μ H) (hK : mK μ a = cn + 1) (hcl : vcl[cn]? = some (C, T, N)) (hk : k < N)
    (hap : ∀ x y, x < N → y < N → x ≠ y → ((gD Γ).2 cn) x ≠ ((gD Γ).2 cn) y) (q2 : cell.cls = (gD Γ).1 cn) (q3 : cell.vm = .none) (q4 : ∀ k, k < N → cell.slots[(gD Γ).2 cn k]? = some (fv μ cn a k))
    (e1 : H'[a]? = some (cell.setSlot ((gD Γ).2 cn k) v)) (e2 : H'.size = H.size) (e3 : ∀ q, q ≠ a → H'[q]? = H[q]?)
    (m1 : mK μ' = mK μ) (m2 : mN μ' = mN μ) (m3 : mX μ' = mX μ) (m5 : mT μ' = mT μ) (m4 : ev μ' = ev μ) (hf : ∀ c b j, b ≠ a → fv μ' c b j = fv μ c b j) (hf2 : ∀ j, j ≠ k → fv μ' cn a j = fv μ cn a j) (hv : fv μ' cn a k = v) : Wd Γ μ' H' := by
  refine ⟨by rw [e2, m3]; exact hD.1, m5.trans hD.2.1, fun b hb => ?_⟩
  rw [m1] at hb
  obtain ⟨⟨hlt, hat⟩, hbase⟩ := hD.2.2 b hb
  refine ⟨⟨by rw [e2]; exact hlt, ?_⟩, by rw [m1]; exact hbase⟩
  by_cases hba : b = a
  · subst hba
    refine ⟨fun c q hc hq => ?_, fun h => ?_⟩
    · rw [m1, hK] at hc
      have hcc : cn = c := Nat.succ.inj hc
      subst hcc
      rw [hcl] at hq
      cases hq
      refine t_OB.to (V := updV (fv μ cn b) k v) ⟨_, e1, q2, q3, t_set q4 hap hk v⟩ (fun j _ => ?_)
      by_cases hj : j = k
      · subst hj; simp [updV, hv]
      · simp [updV, hj, hf2 j hj]
    · rw [m1, hK] at h
      have hl : cn < vcl.length := (List.getElem?_eq_some_iff.mp hcl).1
      have h14 : vcl.length = 14 := rfl
      omega
  · refine ⟨fun c q hc hq => ?_, fun h => ?_⟩
    · rw [m1] at hc
      exact ((hat.1 c q hc hq).kept (e3 b hba)).to (fun j _ => (hf c b j hba).symm)
    · rw [e3 b hba, m1, m2, m4]
      rw [m1] at h
      exact hat.2 h
theorem up2_ne {α : Type} {m : Nat → Nat → α} {f a g b : Nat} {v : α} (h : b ≠ a ∨ g ≠ f) : up2 m f a v g b = m g b := by
  unfold up2
  rw [if_neg]
  rintro ⟨rfl, rfl⟩
  rcases h with h | h <;> exact h rfl
theorem up2_eq {α : Type} {m : Nat → Nat → α} {f a : Nat} {v : α} : up2 m f a v f a = v := by
  unfold up2
  rw [if_pos ⟨rfl, rfl⟩]
/-- writing a field, one that isn't final, or a final one in its own constructor -/
theorem wd_put {Γ : Gam} {μ μ' : Mem} {H : Heap} {y : Mth} {p : Program} {l : Launch} {e : Env} {R : Room} {s : State} {m : MethodId} {args : Array Value} {below : List Frame} {meth : Method} {c : Code} {locs : List Loc} {cells slots : Nat} {Q : State → Prop} {pc idx : Nat} {ls : Array Slot} {st : List Value} {cn k : Nat} {C : String} {T : u_T} {N a : Nat} {v : Value} {ty : FieldType}
    (hc : Ctx Γ y p s m args meth c) (hS0 : va_S (fun q => gB Γ ≤ q) s.heap H locs) (hD : Wd Γ μ H) (hF : FL y.1.cls idx cn k C T N) (hfin : (T k).2.2.2 = false ∨ ((T k).2.2.2 = true ∧ y.1.name = "<init>" ∧ (T k).1 = y.1.cls)) (hK : mK μ a = cn + 1) (hty : parseFieldDescriptor (T k).2.2.1 = some ty) (hn : narrow ty v = v) (hfit : fits ty v = true) (hd : decode y.2.1 pc = .ok (.putfield idx, 3))
    (m1 : mK μ' = mK μ) (m2 : mN μ' = mN μ) (m3 : mX μ' = mX μ) (m5 : mT μ' = mT μ) (m4 : ev μ' = ev μ) (hf : ∀ c b j, b ≠ a → fv μ' c b j = fv μ c b j) (hf2 : ∀ j, j ≠ k → fv μ' cn a j = fv μ cn a j) (hv : fv μ' cn a k = v)
    (kk : ∀ (H' : Heap) (locs' : List Loc), Wd Γ μ' H' → va_S (fun q => gB Γ ≤ q) s.heap H' locs' → W p l e R s m args below meth c H' locs' cells slots Q (F0 m (pc + 3) ls st)) : W p l e R s m args below meth c H locs cells slots Q (F0 m pc ls (v :: .ref a :: st)) := by
  have hts := hc.2.2.2.2.2.1
  obtain ⟨ref, hlink, hsame⟩ := fl_same hts hF
  obtain ⟨⟨hcl, hin, ⟨ty0, hty0⟩, hnm⟩, hk, -⟩ := hF
  have hKK := hc.2.2.2.2.2.2.2.2.1.1
  have hap := va_apart (own := y.1.cls) hts hin ty0 hty0 hnm hKK hcl
  have hb0 := hD.2.2 a (by rw [hK]; exact Nat.succ_ne_zero _)
  obtain ⟨cell, q1, q2, q3, q4⟩ := hb0.1.2.1 cn _ hK hcl
  have hba : gB Γ ≤ a := hb0.2 (by
    have hl : cn < vcl.length := (List.getElem?_eq_some_iff.mp hcl).1
    have h14 : vcl.length = 14 := rfl
    omega)
  obtain ⟨hS, hfc, kC, hkC, hkind⟩ := hKK.1 cn _ hcl
  obtain ⟨cf, kf, fi, f, hi, hsl⟩ := hS k hk
  have hlay := hts _ (hin _ (u_in_lay hk))
  unfold u_lay at hlay
  have hst := (u_facts hfc hkC (u_lays hts hin hk) hi).1
  rcases hfin with hfin | ⟨hfin, hinit, hdecl⟩
  · rw [if_neg (by rw [hfin]; decide)] at hlay
    have h6 := u_store hfc hkC hkind hlay hi hty hn hfit
    refine W.putK hc.1 hc.2.1 (f := f) ⟨hc.2.2.2.2.1, hlink, ⟨_, _, _, hsame _ hi⟩, hst⟩ (by rw [q2]; exact h6) q1 q3 (by rw [hsl]; exact k2_hasslot (q4 k hk)) rfl rfl hd fun H' e1 e2 e3 => ?_
    rw [hsl] at e1 ⊢
    exact kk H' _ (wd_fput hD hK hcl hk hap q2 q3 q4 e1 e2 e3 m1 m2 m3 m5 m4 hf hf2 hv) (hS0.put e2 e3 hba)
  · rw [if_pos hfin] at hlay
    have hcf : m.cls = cf := by
      obtain ⟨_, _, c', _, _, _, -, -, hf', -, -, -, hown2, -⟩ := Cond.laysFinal_spec hlay
      have e1 : c' = cf := by have := hi.symm.trans hf'; simp at this; exact this.1.symm
      rw [hdecl] at hown2
      rw [← e1]; exact Option.some.inj (hc.2.2.2.2.1.symm.trans hown2)
    have h6 := u_fits hfc hkC hkind (Or.inr hlay) hi hty hn hfit
    refine W.putFinK hc.1 hc.2.1 hc.2.2.2.2.1 hlink (hsame _ hi) hst hcf (hc.2.2.2.2.2.2.2.1.trans hinit) (by rw [q2]; exact h6) q1 q3 (by rw [hsl]; exact k2_hasslot (q4 k hk)) rfl rfl hd fun H' e1 e2 e3 => ?_
    rw [hsl] at e1 ⊢
    exact kk H' _ (wd_fput hD hK hcl hk hap q2 q3 q4 e1 e2 e3 m1 m2 m3 m5 m4 hf hf2 hv) (hS0.put e2 e3 hba)
theorem fid_ne {c k c' k' : Nat} (hk : k < 64) (hk' : k' < 64) (h : c' ≠ c ∨ k' ≠ k) : 64 * c' + k' ≠ 64 * c + k := by omega
theorem ok_wI {α : Type} {Γ : Gam} {y : Mth} {d : Nat} {rv : Rv α} {pc : Nat} {lv : List (Nat × Value)} {st : List Value} {F : M α} {r : Option Nat} {x : Int32} {idx cn k : Nat} {C : String} {T : u_T} {N : Nat} (hF : FL y.1.cls idx cn k C T N) (hfin : (T k).2.2.2 = false ∨ ((T k).2.2.2 = true ∧ y.1.name = "<init>" ∧ (T k).1 = y.1.cls)) (hty : parseFieldDescriptor (T k).2.2.1 = some .int) (hN : k < 64) (hf : fty cn k = 0) (hd : decode y.2.1 pc = .ok (.putfield idx, 3)) (kk : Ok Γ y d rv (pc + 3) lv st F) : Ok Γ y d rv pc lv (.int x :: va_rf r :: st) (bn (wI cn k r x) fun _ => F) := by
  intro μ w μ' h
  obtain ⟨u, μ1, h1, h2⟩ := bn_some h
  obtain ⟨a, μ2, h3, h4⟩ := bn_some h1
  obtain ⟨a', rfl, hK, e⟩ := pRc_some h3
  cases e
  cases h4
  refine ⟨(kk _ w μ' h2).1, ?_⟩
  intro p e s m args below meth c x0 s0 H locs ls hc g1 g2 hS hD hl
  refine wd_put (μ' := sI μ (64 * cn + k) a x) hc hS hD hF hfin hK hty rfl rfl hd rfl rfl rfl rfl rfl (fun c b j hb => ?_) (fun j hj => ?_) ?_ (fun H' locs' hD' hS' => (kk _ w μ' h2).2 p e s m args below meth c x0 s0 H' locs' ls hc g1 g2 hS' hD' hl)
  · show (if fty c j = 1 then _ else _) = _
    unfold fv
    simp only [sI, mI, mL, mP, up2_ne (Or.inl hb)]
  · have hz : ∀ {β : Type} (m : Nat → Nat → β) (v : β), up2 m (64 * cn + k) a v (64 * cn + j) a = m (64 * cn + j) a := fun m v => up2_ne (Or.inr (by omega))
    unfold fv
    simp only [sI, mI, mL, mP, hz]
  · unfold fv
    simp [hf, sI, mI, mL, mP, up2_eq]
theorem ok_wL {α : Type} {Γ : Gam} {y : Mth} {d : Nat} {rv : Rv α} {pc : Nat} {lv : List (Nat × Value)} {st : List Value} {F : M α} {r : Option Nat} {x : Int64} {idx cn k : Nat} {C : String} {T : u_T} {N : Nat} (hF : FL y.1.cls idx cn k C T N) (hfin : (T k).2.2.2 = false ∨ ((T k).2.2.2 = true ∧ y.1.name = "<init>" ∧ (T k).1 = y.1.cls)) (hty : parseFieldDescriptor (T k).2.2.1 = some .long) (hN : k < 64) (hf : fty cn k = 1) (hd : decode y.2.1 pc = .ok (.putfield idx, 3)) (kk : Ok Γ y d rv (pc + 3) lv st F) : Ok Γ y d rv pc lv (.long x :: va_rf r :: st) (bn (wL cn k r x) fun _ => F) := by
  intro μ w μ' h
  obtain ⟨u, μ1, h1, h2⟩ := bn_some h
  obtain ⟨a, μ2, h3, h4⟩ := bn_some h1
  obtain ⟨a', rfl, hK, e⟩ := pRc_some h3
  cases e
  cases h4
  refine ⟨(kk _ w μ' h2).1, ?_⟩
  intro p e s m args below meth c x0 s0 H locs ls hc g1 g2 hS hD hl
  refine wd_put (μ' := sL μ (64 * cn + k) a x) hc hS hD hF hfin hK hty rfl rfl hd rfl rfl rfl rfl rfl (fun c b j hb => ?_) (fun j hj => ?_) ?_ (fun H' locs' hD' hS' => (kk _ w μ' h2).2 p e s m args below meth c x0 s0 H' locs' ls hc g1 g2 hS' hD' hl)
  · show (if fty c j = 1 then _ else _) = _
    unfold fv
    simp only [sL, mI, mL, mP, up2_ne (Or.inl hb)]
  · have hz : ∀ {β : Type} (m : Nat → Nat → β) (v : β), up2 m (64 * cn + k) a v (64 * cn + j) a = m (64 * cn + j) a := fun m v => up2_ne (Or.inr (by omega))
    unfold fv
    simp only [sL, mI, mL, mP, hz]
  · unfold fv
    simp [hf, sL, mI, mL, mP, up2_eq]
theorem ok_wP {α : Type} {Γ : Gam} {y : Mth} {d : Nat} {rv : Rv α} {pc : Nat} {lv : List (Nat × Value)} {st : List Value} {F : M α} {r : Option Nat} {x : Option Nat} {idx cn k : Nat} {C : String} {T : u_T} {N : Nat} (hF : FL y.1.cls idx cn k C T N) (hfin : (T k).2.2.2 = false ∨ ((T k).2.2.2 = true ∧ y.1.name = "<init>" ∧ (T k).1 = y.1.cls)) {ty : FieldType} (hty : parseFieldDescriptor (T k).2.2.1 = some ty) (hrf : ∀ r : Option Nat, narrow ty (va_rf r) = va_rf r ∧ fits ty (va_rf r) = true) (hN : k < 64) (hf : fty cn k = 2) (hd : decode y.2.1 pc = .ok (.putfield idx, 3)) (kk : Ok Γ y d rv (pc + 3) lv st F) : Ok Γ y d rv pc lv (va_rf x :: va_rf r :: st) (bn (wP cn k r x) fun _ => F) := by
  intro μ w μ' h
  obtain ⟨u, μ1, h1, h2⟩ := bn_some h
  obtain ⟨a, μ2, h3, h4⟩ := bn_some h1
  obtain ⟨a', rfl, hK, e⟩ := pRc_some h3
  cases e
  cases h4
  refine ⟨(kk _ w μ' h2).1, ?_⟩
  intro p e s m args below meth c x0 s0 H locs ls hc g1 g2 hS hD hl
  refine wd_put (μ' := sP μ (64 * cn + k) a x) hc hS hD hF hfin hK hty (hrf x).1 (hrf x).2 hd rfl rfl rfl rfl rfl (fun c b j hb => ?_) (fun j hj => ?_) ?_ (fun H' locs' hD' hS' => (kk _ w μ' h2).2 p e s m args below meth c x0 s0 H' locs' ls hc g1 g2 hS' hD' hl)
  · show (if fty c j = 1 then _ else _) = _
    unfold fv
    simp only [sP, mI, mL, mP, up2_ne (Or.inl hb)]
  · have hz : ∀ {β : Type} (m : Nat → Nat → β) (v : β), up2 m (64 * cn + k) a v (64 * cn + j) a = m (64 * cn + j) a := fun m v => up2_ne (Or.inr (by omega))
    unfold fv
    simp only [sP, mI, mL, mP, hz]
  · unfold fv
    simp [hf, sP, mI, mL, mP, up2_eq]
theorem ok_wZ {α : Type} {Γ : Gam} {y : Mth} {d : Nat} {rv : Rv α} {pc : Nat} {lv : List (Nat × Value)} {st : List Value} {F : M α} {r : Option Nat} {x : Int32} {idx cn k : Nat} {C : String} {T : u_T} {N : Nat} (hF : FL y.1.cls idx cn k C T N) (hfin : (T k).2.2.2 = false ∨ ((T k).2.2.2 = true ∧ y.1.name = "<init>" ∧ (T k).1 = y.1.cls)) (hty : parseFieldDescriptor (T k).2.2.1 = some .boolean) (hN : k < 64) (hf : fty cn k = 3) (hd : decode y.2.1 pc = .ok (.putfield idx, 3)) (kk : Ok Γ y d rv (pc + 3) lv st F) : Ok Γ y d rv pc lv (.int x :: va_rf r :: st) (bn (wZ cn k r x) fun _ => F) := by
  intro μ w μ' h
  obtain ⟨u, μ1, h1, h2⟩ := bn_some h
  obtain ⟨a, μ2, h3, h4⟩ := bn_some h1
  obtain ⟨a', rfl, hK, e⟩ := pRc_some h3
  cases e
  by_cases hx : x = 0 ∨ x = 1
  case neg => simp only [if_neg hx] at h4; cases h4
  simp only [if_pos hx] at h4
  cases h4
  refine ⟨(kk _ w μ' h2).1, ?_⟩
  intro p e s m args below meth c x0 s0 H locs ls hc g1 g2 hS hD hl
  refine wd_put (μ' := sI μ (64 * cn + k) a x) hc hS hD hF hfin hK hty (nar_z hx) (by rcases hx with rfl | rfl <;> rfl) hd rfl rfl rfl rfl rfl (fun c b j hb => ?_) (fun j hj => ?_) ?_ (fun H' locs' hD' hS' => (kk _ w μ' h2).2 p e s m args below meth c x0 s0 H' locs' ls hc g1 g2 hS' hD' hl)
  · show (if fty c j = 1 then _ else _) = _
    unfold fv
    simp only [sI, mI, mL, mP, up2_ne (Or.inl hb)]
  · have hz : ∀ {β : Type} (m : Nat → Nat → β) (v : β), up2 m (64 * cn + k) a v (64 * cn + j) a = m (64 * cn + j) a := fun m v => up2_ne (Or.inr (by omega))
    unfold fv
    simp only [sI, mI, mL, mP, hz]
  · unfold fv
    simp [hf, sI, mI, mL, mP, up2_eq]
