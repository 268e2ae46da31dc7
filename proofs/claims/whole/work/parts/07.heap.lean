/-- what stands at a method's end -/
theorem qo_end {Γ : Gam} {v : Option Value} {μ : Mem} {args : Array Value} {s t : State} {H : Heap} {locs : List Loc} (hS : va_S (fun q => gB Γ ≤ q) s.heap H locs) (hD : Wd Γ μ H) (ht : t.heap = H) : Qo Γ v μ args s (.returned v) t := ⟨rfl, by rw [ht]; exact hD, hS.F ht⟩
theorem ok_ireturn {Γ : Gam} {y : Mth} {d pc : Nat} {lv : List (Nat × Value)} {x : Int32} (hd : decode y.2.1 pc = .ok (.ireturn, 1)) (hr : y.2.2.2 = some .int) : Ok Γ y d (qo Γ vI) pc lv [.int x] (rt x) := by
  intro μ w μ' h
  cases h
  refine ⟨⟨Nat.le_refl _, Nat.le_refl _⟩, ?_⟩
  intro p e s m args below meth c x0 s0 H locs ls hc h1 h2 hS hD hl
  exact W.iret hc.1 hc.2.1 (hc.2.2.1.trans hr) (fun t ht _ => qo_end hS hD ht) (fun q hq => hS.2.2 q hq) hd hc.2.2.2.2.2.2.1
theorem nar_z {v : Int32} (h : v = 0 ∨ v = 1) : narrow .boolean (.int v) = .int v := by
  rcases h with rfl | rfl <;> rfl
theorem ok_zreturn {Γ : Gam} {y : Mth} {d pc : Nat} {lv : List (Nat × Value)} {x : Int32} (hd : decode y.2.1 pc = .ok (.ireturn, 1)) (hr : y.2.2.2 = some .boolean) : Ok Γ y d (qo Γ vI) pc lv [.int x] (rz x) := by
  intro μ w μ' h
  unfold rz at h
  by_cases hx : x = 0 ∨ x = 1
  · rw [if_pos hx] at h
    cases h
    refine ⟨⟨Nat.le_refl _, Nat.le_refl _⟩, ?_⟩
    intro p e s m args below meth c x0 s0 H locs ls hc h1 h2 hS hD hl
    exact W.zret hc.1 hc.2.1 (hc.2.2.1.trans hr) (nar_z hx) (fun t ht _ => qo_end hS hD ht) (fun q hq => hS.2.2 q hq) hd hc.2.2.2.2.2.2.1
  · rw [if_neg hx] at h
    cases h
theorem ok_lreturn {Γ : Gam} {y : Mth} {d pc : Nat} {lv : List (Nat × Value)} {x : Int64} (hd : decode y.2.1 pc = .ok (.lreturn, 1)) (hr : y.2.2.2 = some .long) : Ok Γ y d (qo Γ vL) pc lv [.long x] (rt x) := by
  intro μ w μ' h
  cases h
  refine ⟨⟨Nat.le_refl _, Nat.le_refl _⟩, ?_⟩
  intro p e s m args below meth c x0 s0 H locs ls hc h1 h2 hS hD hl
  exact W.lret hc.1 hc.2.1 (hc.2.2.1.trans hr) (fun t ht _ => qo_end hS hD ht) (fun q hq => hS.2.2 q hq) hd hc.2.2.2.2.2.2.1
theorem rf_or (r : Option Nat) : va_rf r = .null ∨ ∃ a, va_rf r = .ref a := by
  cases r with
  | none => exact Or.inl rfl
  | some a => exact Or.inr ⟨a, rfl⟩
theorem ok_areturn {Γ : Gam} {y : Mth} {d pc : Nat} {lv : List (Nat × Value)} {r : Option Nat} {ty : FieldType} (hd : decode y.2.1 pc = .ok (.areturn, 1)) (hr : y.2.2.2 = some ty) (hty : (∃ n, ty = .object n) ∨ ∃ t, ty = .array t) : Ok Γ y d (qo Γ vP) pc lv [va_rf r] (rt r) := by
  intro μ w μ' h
  cases h
  refine ⟨⟨Nat.le_refl _, Nat.le_refl _⟩, ?_⟩
  intro p e s m args below meth c x0 s0 H locs ls hc h1 h2 hS hD hl
  exact W.aret hc.1 hc.2.1 (hc.2.2.1.trans hr) hty (rf_or r) (fun t ht _ => qo_end hS hD ht) (fun q hq => hS.2.2 q hq) hd hc.2.2.2.2.2.2.1
theorem ok_return {Γ : Gam} {y : Mth} {d pc : Nat} {lv : List (Nat × Value)} (hd : decode y.2.1 pc = .ok (.return_, 1)) (hr : y.2.2.2 = none) : Ok Γ y d (qo Γ vV) pc lv [] (rt ()) := by
  intro μ w μ' h
  cases h
  refine ⟨⟨Nat.le_refl _, Nat.le_refl _⟩, ?_⟩
  intro p e s m args below meth c x0 s0 H locs ls hc h1 h2 hS hD hl
  exact W.vret hc.1 hc.2.1 (hc.2.2.1.trans hr) (fun t ht _ => qo_end hS hD ht) (fun q hq => hS.2.2 q hq) hd hc.2.2.2.2.2.2.1
/-- the classes' facts, each decided once -/
def CF (c : Nat) (C : String) (T : u_T) (N : Nat) : Prop := vcl[c]? = some (C, T, N) ∧ (∀ w ∈ u_ws C T N, w ∈ lw_g) ∧ (∃ ty : Nat → FieldType, ∀ k, k < N → parseFieldDescriptor (T k).2.2.1 = some (ty k)) ∧ (∀ a, a < N → ∀ b, b < N → a ≠ b → (T a).2.1 ≠ (T b).2.1)
/-- a field's link in a class's pool -/
def FL (own : String) (idx c k : Nat) (C : String) (T : u_T) (N : Nat) : Prop := CF c C T N ∧ k < N ∧ ∃ ref, Cond.fieldLink own idx ref (T k).2.1 (T k).2.2.1 ∈ lw_g ∧ (ref = (T k).1 ∨ Cond.sameField ref (T k).1 (T k).2.1 (T k).2.2.1 ∈ lw_g)
theorem fl_same {args : Array Value} {s : State} {own : String} {idx c k : Nat} {C : String} {T : u_T} {N : Nat} (hts : ∀ w ∈ lw_g, w.before args s = true) (h : FL own idx c k C T N) : ∃ ref, (Cond.fieldLink own idx ref (T k).2.1 (T k).2.2.1).before args s = true ∧ ∀ x, s.fieldFound? (T k).1 (T k).2.1 (T k).2.2.1 = some x → s.fieldFound? ref (T k).2.1 (T k).2.2.1 = some x := by
  obtain ⟨-, -, ref, h1, h2⟩ := h
  refine ⟨ref, hts _ h1, fun x hx => ?_⟩
  rcases h2 with rfl | h2
  · exact hx
  · exact u_same (hts _ h2) x hx
/-- a receiver -/
theorem pRc_some {c : Nat} {r : Option Nat} {μ : Mem} {q : Nat × Mem} (h : pRc c r μ = some q) : ∃ a, r = some a ∧ mK μ a = c + 1 ∧ q = (a, μ) := by
  unfold pRc at h
  cases r with
  | none => cases h
  | some a =>
    simp only at h
    by_cases hk : mK μ a = c + 1
    · rw [if_pos hk] at h
      exact ⟨a, rfl, hk, (Option.some.inj h).symm⟩
    · rw [if_neg hk] at h
      cases h
theorem pArr_some {k : Nat} {r : Option Nat} {μ : Mem} {q : Nat × Mem} (h : pArr k r μ = some q) : ∃ a, r = some a ∧ mK μ a = k ∧ q = (a, μ) := by
  unfold pArr at h
  cases r with
  | none => cases h
  | some a =>
    simp only at h
    by_cases hk : mK μ a = k
    · rw [if_pos hk] at h
      exact ⟨a, rfl, hk, (Option.some.inj h).symm⟩
    · rw [if_neg hk] at h
      cases h
/-- reading a field -/
theorem wd_get {Γ : Gam} {μ : Mem} {H : Heap} {y : Mth} {p : Program} {l : Launch} {e : Env} {R : Room} {s : State} {m : MethodId} {args : Array Value} {below : List Frame} {meth : Method} {c : Code} {locs : List Loc} {cells slots : Nat} {Q : State → Prop} {pc idx : Nat} {ls : Array Slot} {st : List Value} {cn k : Nat} {C : String} {T : u_T} {N a : Nat}
    (hc : Ctx Γ y p s m args meth c) (hD : Wd Γ μ H) (hF : FL y.1.cls idx cn k C T N) (hK : mK μ a = cn + 1) (hd : decode y.2.1 pc = .ok (.getfield idx, 3))
    (kk : W p l e R s m args below meth c H locs cells slots Q (F0 m (pc + 3) ls (fv μ cn a k :: st))) : W p l e R s m args below meth c H locs cells slots Q (F0 m pc ls (.ref a :: st)) := by
  obtain ⟨ref, hlink, hsame⟩ := fl_same hc.2.2.2.2.2.1 hF
  obtain ⟨⟨hcl, hin, -, -⟩, hk, -⟩ := hF
  have hat := ((hD.2.2 a (by rw [hK]; exact Nat.succ_ne_zero _)).1.2).1 cn _ hK hcl
  obtain ⟨cell, q1, q2, q3, q4⟩ := hat
  obtain ⟨hS, hfc, kC, hkC, hkind⟩ := hc.2.2.2.2.2.2.2.2.1.1.1 cn _ hcl
  obtain ⟨cf, kf, fi, f, hi, hsl⟩ := hS k hk
  refine W.getf hc.1 hc.2.1 hc.2.2.2.2.1 hlink (hsame _ hi) (u_facts hfc hkC (u_lays hc.2.2.2.2.2.1 hin hk) hi).1 q1 (by rw [q3]; exact fun h => by cases h) (v := fv μ cn a k) ?_ rfl rfl hd kk
  rw [hsl, q4 k hk]
theorem ok_gI {α : Type} {Γ : Gam} {y : Mth} {d : Nat} {rv : Rv α} {pc : Nat} {lv : List (Nat × Value)} {st : List Value} {F : Int32 → M α} {r : Option Nat} {idx cn k : Nat} {C : String} {T : u_T} {N : Nat} (hF : FL y.1.cls idx cn k C T N) (hf : fty cn k = 0) (hd : decode y.2.1 pc = .ok (.getfield idx, 3)) (kk : ∀ x : Int32, Ok Γ y d rv (pc + 3) lv ((.int x) :: st) (F x)) : Ok Γ y d rv pc lv (va_rf r :: st) (bn (gI cn k r) F) := by
  intro μ w μ' h
  obtain ⟨u, μ1, h1, h2⟩ := bn_some h
  obtain ⟨a, μ2, h3, h4⟩ := bn_some h1
  obtain ⟨a', rfl, hK, e⟩ := pRc_some h3
  cases e
  cases h4
  refine ⟨(kk _ μ w μ' h2).1, ?_⟩
  intro p e s m args below meth c x0 s0 H locs ls hc g1 g2 hS hD hl
  refine wd_get hc hD hF hK hd ?_
  have he : fv μ cn a k = .int (mI μ (64 * cn + k) a) := by simp [fv, hf]
  rw [he]
  exact (kk _ μ w μ' h2).2 p e s m args below meth c x0 s0 H locs ls hc g1 g2 hS hD hl
theorem ok_gZ {α : Type} {Γ : Gam} {y : Mth} {d : Nat} {rv : Rv α} {pc : Nat} {lv : List (Nat × Value)} {st : List Value} {F : Int32 → M α} {r : Option Nat} {idx cn k : Nat} {C : String} {T : u_T} {N : Nat} (hF : FL y.1.cls idx cn k C T N) (hf : fty cn k = 3) (hd : decode y.2.1 pc = .ok (.getfield idx, 3)) (kk : ∀ x : Int32, Ok Γ y d rv (pc + 3) lv ((.int x) :: st) (F x)) : Ok Γ y d rv pc lv (va_rf r :: st) (bn (gI cn k r) F) := by
  intro μ w μ' h
  obtain ⟨u, μ1, h1, h2⟩ := bn_some h
  obtain ⟨a, μ2, h3, h4⟩ := bn_some h1
  obtain ⟨a', rfl, hK, e⟩ := pRc_some h3
  cases e
  cases h4
  refine ⟨(kk _ μ w μ' h2).1, ?_⟩
  intro p e s m args below meth c x0 s0 H locs ls hc g1 g2 hS hD hl
  refine wd_get hc hD hF hK hd ?_
  have he : fv μ cn a k = .int (mI μ (64 * cn + k) a) := by simp [fv, hf]
  rw [he]
  exact (kk _ μ w μ' h2).2 p e s m args below meth c x0 s0 H locs ls hc g1 g2 hS hD hl
theorem ok_gL {α : Type} {Γ : Gam} {y : Mth} {d : Nat} {rv : Rv α} {pc : Nat} {lv : List (Nat × Value)} {st : List Value} {F : Int64 → M α} {r : Option Nat} {idx cn k : Nat} {C : String} {T : u_T} {N : Nat} (hF : FL y.1.cls idx cn k C T N) (hf : fty cn k = 1) (hd : decode y.2.1 pc = .ok (.getfield idx, 3)) (kk : ∀ x : Int64, Ok Γ y d rv (pc + 3) lv ((.long x) :: st) (F x)) : Ok Γ y d rv pc lv (va_rf r :: st) (bn (gLg cn k r) F) := by
  intro μ w μ' h
  obtain ⟨u, μ1, h1, h2⟩ := bn_some h
  obtain ⟨a, μ2, h3, h4⟩ := bn_some h1
  obtain ⟨a', rfl, hK, e⟩ := pRc_some h3
  cases e
  cases h4
  refine ⟨(kk _ μ w μ' h2).1, ?_⟩
  intro p e s m args below meth c x0 s0 H locs ls hc g1 g2 hS hD hl
  refine wd_get hc hD hF hK hd ?_
  have he : fv μ cn a k = .long (mL μ (64 * cn + k) a) := by simp [fv, hf]
  rw [he]
  exact (kk _ μ w μ' h2).2 p e s m args below meth c x0 s0 H locs ls hc g1 g2 hS hD hl
theorem ok_gP {α : Type} {Γ : Gam} {y : Mth} {d : Nat} {rv : Rv α} {pc : Nat} {lv : List (Nat × Value)} {st : List Value} {F : Option Nat → M α} {r : Option Nat} {idx cn k : Nat} {C : String} {T : u_T} {N : Nat} (hF : FL y.1.cls idx cn k C T N) (hf : fty cn k = 2) (hd : decode y.2.1 pc = .ok (.getfield idx, 3)) (kk : ∀ x : Option Nat, Ok Γ y d rv (pc + 3) lv ((va_rf x) :: st) (F x)) : Ok Γ y d rv pc lv (va_rf r :: st) (bn (gP cn k r) F) := by
  intro μ w μ' h
  obtain ⟨u, μ1, h1, h2⟩ := bn_some h
  obtain ⟨a, μ2, h3, h4⟩ := bn_some h1
  obtain ⟨a', rfl, hK, e⟩ := pRc_some h3
  cases e
  cases h4
  refine ⟨(kk _ μ w μ' h2).1, ?_⟩
  intro p e s m args below meth c x0 s0 H locs ls hc g1 g2 hS hD hl
  refine wd_get hc hD hF hK hd ?_
  have he : fv μ cn a k = va_rf (mP μ (64 * cn + k) a) := by simp [fv, hf]
  rw [he]
  exact (kk _ μ w μ' h2).2 p e s m args below meth c x0 s0 H locs ls hc g1 g2 hS hD hl
