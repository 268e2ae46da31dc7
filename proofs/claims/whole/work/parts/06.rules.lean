theorem ok_if_eq {α : Type} {Γ : Gam} {y : Mth} {d : Nat} {rv : Rv α} {pc : Nat} {lv : List (Nat × Value)} {st : List Value} {F G : M α} {x : Int32} {off : Int} {tgt : Nat} (hd : decode y.2.1 pc = .ok (.ifCond .eq off, 3)) (ht : (pc : Int) + off = (tgt : Int)) (kt : Ok Γ y d rv tgt lv st F) (kf : Ok Γ y d rv (pc + 3) lv st G) : Ok Γ y d rv pc lv (.int x :: st) (if x = 0 then F else G) := by
  intro μ r μ' h
  by_cases hq : x = 0
  · rw [if_pos hq] at h
    refine ⟨(kt μ r μ' h).1, ?_⟩
    intro p e s m args below meth c x0 s0 H locs ls hc h1 h2 hS hD hl
    exact lv_if_eq hc.1 hc.2.1 hd ht (fun _ => (kt μ r μ' h).2 p e s m args below meth c x0 s0 H locs ls hc h1 h2 hS hD hl) (fun hn => by first | exact absurd hq hn | exact absurd hn hq)
  · rw [if_neg hq] at h
    refine ⟨(kf μ r μ' h).1, ?_⟩
    intro p e s m args below meth c x0 s0 H locs ls hc h1 h2 hS hD hl
    exact lv_if_eq hc.1 hc.2.1 hd ht (fun hn => by first | exact absurd hn hq | exact absurd hq hn) (fun _ => (kf μ r μ' h).2 p e s m args below meth c x0 s0 H locs ls hc h1 h2 hS hD hl)
theorem ok_icmp_eq {α : Type} {Γ : Gam} {y : Mth} {d : Nat} {rv : Rv α} {pc : Nat} {lv : List (Nat × Value)} {st : List Value} {F G : M α} {x z : Int32} {off : Int} {tgt : Nat} (hd : decode y.2.1 pc = .ok (.if_icmp .eq off, 3)) (ht : (pc : Int) + off = (tgt : Int)) (kt : Ok Γ y d rv tgt lv st F) (kf : Ok Γ y d rv (pc + 3) lv st G) : Ok Γ y d rv pc lv (.int z :: .int x :: st) (if x = z then F else G) := by
  intro μ r μ' h
  by_cases hq : x = z
  · rw [if_pos hq] at h
    refine ⟨(kt μ r μ' h).1, ?_⟩
    intro p e s m args below meth c x0 s0 H locs ls hc h1 h2 hS hD hl
    exact lv_icmp_eq hc.1 hc.2.1 hd ht (fun _ => (kt μ r μ' h).2 p e s m args below meth c x0 s0 H locs ls hc h1 h2 hS hD hl) (fun hn => by first | exact absurd hq hn | exact absurd hn hq)
  · rw [if_neg hq] at h
    refine ⟨(kf μ r μ' h).1, ?_⟩
    intro p e s m args below meth c x0 s0 H locs ls hc h1 h2 hS hD hl
    exact lv_icmp_eq hc.1 hc.2.1 hd ht (fun hn => by first | exact absurd hn hq | exact absurd hq hn) (fun _ => (kf μ r μ' h).2 p e s m args below meth c x0 s0 H locs ls hc h1 h2 hS hD hl)
theorem ok_if_ne {α : Type} {Γ : Gam} {y : Mth} {d : Nat} {rv : Rv α} {pc : Nat} {lv : List (Nat × Value)} {st : List Value} {F G : M α} {x : Int32} {off : Int} {tgt : Nat} (hd : decode y.2.1 pc = .ok (.ifCond .ne off, 3)) (ht : (pc : Int) + off = (tgt : Int)) (kt : Ok Γ y d rv tgt lv st F) (kf : Ok Γ y d rv (pc + 3) lv st G) : Ok Γ y d rv pc lv (.int x :: st) (if ¬ x = 0 then F else G) := by
  intro μ r μ' h
  by_cases hq : ¬ x = 0
  · rw [if_pos hq] at h
    refine ⟨(kt μ r μ' h).1, ?_⟩
    intro p e s m args below meth c x0 s0 H locs ls hc h1 h2 hS hD hl
    exact lv_if_ne hc.1 hc.2.1 hd ht (fun _ => (kt μ r μ' h).2 p e s m args below meth c x0 s0 H locs ls hc h1 h2 hS hD hl) (fun hn => by first | exact absurd hq hn | exact absurd hn hq)
  · rw [if_neg hq] at h
    refine ⟨(kf μ r μ' h).1, ?_⟩
    intro p e s m args below meth c x0 s0 H locs ls hc h1 h2 hS hD hl
    exact lv_if_ne hc.1 hc.2.1 hd ht (fun hn => by first | exact absurd hn hq | exact absurd hq hn) (fun _ => (kf μ r μ' h).2 p e s m args below meth c x0 s0 H locs ls hc h1 h2 hS hD hl)
theorem ok_icmp_ne {α : Type} {Γ : Gam} {y : Mth} {d : Nat} {rv : Rv α} {pc : Nat} {lv : List (Nat × Value)} {st : List Value} {F G : M α} {x z : Int32} {off : Int} {tgt : Nat} (hd : decode y.2.1 pc = .ok (.if_icmp .ne off, 3)) (ht : (pc : Int) + off = (tgt : Int)) (kt : Ok Γ y d rv tgt lv st F) (kf : Ok Γ y d rv (pc + 3) lv st G) : Ok Γ y d rv pc lv (.int z :: .int x :: st) (if ¬ x = z then F else G) := by
  intro μ r μ' h
  by_cases hq : ¬ x = z
  · rw [if_pos hq] at h
    refine ⟨(kt μ r μ' h).1, ?_⟩
    intro p e s m args below meth c x0 s0 H locs ls hc h1 h2 hS hD hl
    exact lv_icmp_ne hc.1 hc.2.1 hd ht (fun _ => (kt μ r μ' h).2 p e s m args below meth c x0 s0 H locs ls hc h1 h2 hS hD hl) (fun hn => by first | exact absurd hq hn | exact absurd hn hq)
  · rw [if_neg hq] at h
    refine ⟨(kf μ r μ' h).1, ?_⟩
    intro p e s m args below meth c x0 s0 H locs ls hc h1 h2 hS hD hl
    exact lv_icmp_ne hc.1 hc.2.1 hd ht (fun hn => by first | exact absurd hn hq | exact absurd hq hn) (fun _ => (kf μ r μ' h).2 p e s m args below meth c x0 s0 H locs ls hc h1 h2 hS hD hl)
theorem ok_if_lt {α : Type} {Γ : Gam} {y : Mth} {d : Nat} {rv : Rv α} {pc : Nat} {lv : List (Nat × Value)} {st : List Value} {F G : M α} {x : Int32} {off : Int} {tgt : Nat} (hd : decode y.2.1 pc = .ok (.ifCond .lt off, 3)) (ht : (pc : Int) + off = (tgt : Int)) (kt : Ok Γ y d rv tgt lv st F) (kf : Ok Γ y d rv (pc + 3) lv st G) : Ok Γ y d rv pc lv (.int x :: st) (if x < 0 then F else G) := by
  intro μ r μ' h
  by_cases hq : x < 0
  · rw [if_pos hq] at h
    refine ⟨(kt μ r μ' h).1, ?_⟩
    intro p e s m args below meth c x0 s0 H locs ls hc h1 h2 hS hD hl
    exact lv_if_lt hc.1 hc.2.1 hd ht (fun _ => (kt μ r μ' h).2 p e s m args below meth c x0 s0 H locs ls hc h1 h2 hS hD hl) (fun hn => by first | exact absurd hq hn | exact absurd hn hq)
  · rw [if_neg hq] at h
    refine ⟨(kf μ r μ' h).1, ?_⟩
    intro p e s m args below meth c x0 s0 H locs ls hc h1 h2 hS hD hl
    exact lv_if_lt hc.1 hc.2.1 hd ht (fun hn => by first | exact absurd hn hq | exact absurd hq hn) (fun _ => (kf μ r μ' h).2 p e s m args below meth c x0 s0 H locs ls hc h1 h2 hS hD hl)
theorem ok_icmp_lt {α : Type} {Γ : Gam} {y : Mth} {d : Nat} {rv : Rv α} {pc : Nat} {lv : List (Nat × Value)} {st : List Value} {F G : M α} {x z : Int32} {off : Int} {tgt : Nat} (hd : decode y.2.1 pc = .ok (.if_icmp .lt off, 3)) (ht : (pc : Int) + off = (tgt : Int)) (kt : Ok Γ y d rv tgt lv st F) (kf : Ok Γ y d rv (pc + 3) lv st G) : Ok Γ y d rv pc lv (.int z :: .int x :: st) (if x < z then F else G) := by
  intro μ r μ' h
  by_cases hq : x < z
  · rw [if_pos hq] at h
    refine ⟨(kt μ r μ' h).1, ?_⟩
    intro p e s m args below meth c x0 s0 H locs ls hc h1 h2 hS hD hl
    exact lv_icmp_lt hc.1 hc.2.1 hd ht (fun _ => (kt μ r μ' h).2 p e s m args below meth c x0 s0 H locs ls hc h1 h2 hS hD hl) (fun hn => by first | exact absurd hq hn | exact absurd hn hq)
  · rw [if_neg hq] at h
    refine ⟨(kf μ r μ' h).1, ?_⟩
    intro p e s m args below meth c x0 s0 H locs ls hc h1 h2 hS hD hl
    exact lv_icmp_lt hc.1 hc.2.1 hd ht (fun hn => by first | exact absurd hn hq | exact absurd hq hn) (fun _ => (kf μ r μ' h).2 p e s m args below meth c x0 s0 H locs ls hc h1 h2 hS hD hl)
theorem ok_if_ge {α : Type} {Γ : Gam} {y : Mth} {d : Nat} {rv : Rv α} {pc : Nat} {lv : List (Nat × Value)} {st : List Value} {F G : M α} {x : Int32} {off : Int} {tgt : Nat} (hd : decode y.2.1 pc = .ok (.ifCond .ge off, 3)) (ht : (pc : Int) + off = (tgt : Int)) (kt : Ok Γ y d rv tgt lv st F) (kf : Ok Γ y d rv (pc + 3) lv st G) : Ok Γ y d rv pc lv (.int x :: st) (if 0 ≤ x then F else G) := by
  intro μ r μ' h
  by_cases hq : 0 ≤ x
  · rw [if_pos hq] at h
    refine ⟨(kt μ r μ' h).1, ?_⟩
    intro p e s m args below meth c x0 s0 H locs ls hc h1 h2 hS hD hl
    exact lv_if_ge hc.1 hc.2.1 hd ht (fun _ => (kt μ r μ' h).2 p e s m args below meth c x0 s0 H locs ls hc h1 h2 hS hD hl) (fun hn => by first | exact absurd hq hn | exact absurd hn hq)
  · rw [if_neg hq] at h
    refine ⟨(kf μ r μ' h).1, ?_⟩
    intro p e s m args below meth c x0 s0 H locs ls hc h1 h2 hS hD hl
    exact lv_if_ge hc.1 hc.2.1 hd ht (fun hn => by first | exact absurd hn hq | exact absurd hq hn) (fun _ => (kf μ r μ' h).2 p e s m args below meth c x0 s0 H locs ls hc h1 h2 hS hD hl)
theorem ok_icmp_ge {α : Type} {Γ : Gam} {y : Mth} {d : Nat} {rv : Rv α} {pc : Nat} {lv : List (Nat × Value)} {st : List Value} {F G : M α} {x z : Int32} {off : Int} {tgt : Nat} (hd : decode y.2.1 pc = .ok (.if_icmp .ge off, 3)) (ht : (pc : Int) + off = (tgt : Int)) (kt : Ok Γ y d rv tgt lv st F) (kf : Ok Γ y d rv (pc + 3) lv st G) : Ok Γ y d rv pc lv (.int z :: .int x :: st) (if z ≤ x then F else G) := by
  intro μ r μ' h
  by_cases hq : z ≤ x
  · rw [if_pos hq] at h
    refine ⟨(kt μ r μ' h).1, ?_⟩
    intro p e s m args below meth c x0 s0 H locs ls hc h1 h2 hS hD hl
    exact lv_icmp_ge hc.1 hc.2.1 hd ht (fun _ => (kt μ r μ' h).2 p e s m args below meth c x0 s0 H locs ls hc h1 h2 hS hD hl) (fun hn => by first | exact absurd hq hn | exact absurd hn hq)
  · rw [if_neg hq] at h
    refine ⟨(kf μ r μ' h).1, ?_⟩
    intro p e s m args below meth c x0 s0 H locs ls hc h1 h2 hS hD hl
    exact lv_icmp_ge hc.1 hc.2.1 hd ht (fun hn => by first | exact absurd hn hq | exact absurd hq hn) (fun _ => (kf μ r μ' h).2 p e s m args below meth c x0 s0 H locs ls hc h1 h2 hS hD hl)
theorem ok_if_gt {α : Type} {Γ : Gam} {y : Mth} {d : Nat} {rv : Rv α} {pc : Nat} {lv : List (Nat × Value)} {st : List Value} {F G : M α} {x : Int32} {off : Int} {tgt : Nat} (hd : decode y.2.1 pc = .ok (.ifCond .gt off, 3)) (ht : (pc : Int) + off = (tgt : Int)) (kt : Ok Γ y d rv tgt lv st F) (kf : Ok Γ y d rv (pc + 3) lv st G) : Ok Γ y d rv pc lv (.int x :: st) (if 0 < x then F else G) := by
  intro μ r μ' h
  by_cases hq : 0 < x
  · rw [if_pos hq] at h
    refine ⟨(kt μ r μ' h).1, ?_⟩
    intro p e s m args below meth c x0 s0 H locs ls hc h1 h2 hS hD hl
    exact lv_if_gt hc.1 hc.2.1 hd ht (fun _ => (kt μ r μ' h).2 p e s m args below meth c x0 s0 H locs ls hc h1 h2 hS hD hl) (fun hn => by first | exact absurd hq hn | exact absurd hn hq)
  · rw [if_neg hq] at h
    refine ⟨(kf μ r μ' h).1, ?_⟩
    intro p e s m args below meth c x0 s0 H locs ls hc h1 h2 hS hD hl
    exact lv_if_gt hc.1 hc.2.1 hd ht (fun hn => by first | exact absurd hn hq | exact absurd hq hn) (fun _ => (kf μ r μ' h).2 p e s m args below meth c x0 s0 H locs ls hc h1 h2 hS hD hl)
theorem ok_icmp_gt {α : Type} {Γ : Gam} {y : Mth} {d : Nat} {rv : Rv α} {pc : Nat} {lv : List (Nat × Value)} {st : List Value} {F G : M α} {x z : Int32} {off : Int} {tgt : Nat} (hd : decode y.2.1 pc = .ok (.if_icmp .gt off, 3)) (ht : (pc : Int) + off = (tgt : Int)) (kt : Ok Γ y d rv tgt lv st F) (kf : Ok Γ y d rv (pc + 3) lv st G) : Ok Γ y d rv pc lv (.int z :: .int x :: st) (if z < x then F else G) := by
  intro μ r μ' h
  by_cases hq : z < x
  · rw [if_pos hq] at h
    refine ⟨(kt μ r μ' h).1, ?_⟩
    intro p e s m args below meth c x0 s0 H locs ls hc h1 h2 hS hD hl
    exact lv_icmp_gt hc.1 hc.2.1 hd ht (fun _ => (kt μ r μ' h).2 p e s m args below meth c x0 s0 H locs ls hc h1 h2 hS hD hl) (fun hn => by first | exact absurd hq hn | exact absurd hn hq)
  · rw [if_neg hq] at h
    refine ⟨(kf μ r μ' h).1, ?_⟩
    intro p e s m args below meth c x0 s0 H locs ls hc h1 h2 hS hD hl
    exact lv_icmp_gt hc.1 hc.2.1 hd ht (fun hn => by first | exact absurd hn hq | exact absurd hq hn) (fun _ => (kf μ r μ' h).2 p e s m args below meth c x0 s0 H locs ls hc h1 h2 hS hD hl)
theorem ok_if_le {α : Type} {Γ : Gam} {y : Mth} {d : Nat} {rv : Rv α} {pc : Nat} {lv : List (Nat × Value)} {st : List Value} {F G : M α} {x : Int32} {off : Int} {tgt : Nat} (hd : decode y.2.1 pc = .ok (.ifCond .le off, 3)) (ht : (pc : Int) + off = (tgt : Int)) (kt : Ok Γ y d rv tgt lv st F) (kf : Ok Γ y d rv (pc + 3) lv st G) : Ok Γ y d rv pc lv (.int x :: st) (if x ≤ 0 then F else G) := by
  intro μ r μ' h
  by_cases hq : x ≤ 0
  · rw [if_pos hq] at h
    refine ⟨(kt μ r μ' h).1, ?_⟩
    intro p e s m args below meth c x0 s0 H locs ls hc h1 h2 hS hD hl
    exact lv_if_le hc.1 hc.2.1 hd ht (fun _ => (kt μ r μ' h).2 p e s m args below meth c x0 s0 H locs ls hc h1 h2 hS hD hl) (fun hn => by first | exact absurd hq hn | exact absurd hn hq)
  · rw [if_neg hq] at h
    refine ⟨(kf μ r μ' h).1, ?_⟩
    intro p e s m args below meth c x0 s0 H locs ls hc h1 h2 hS hD hl
    exact lv_if_le hc.1 hc.2.1 hd ht (fun hn => by first | exact absurd hn hq | exact absurd hq hn) (fun _ => (kf μ r μ' h).2 p e s m args below meth c x0 s0 H locs ls hc h1 h2 hS hD hl)
theorem ok_icmp_le {α : Type} {Γ : Gam} {y : Mth} {d : Nat} {rv : Rv α} {pc : Nat} {lv : List (Nat × Value)} {st : List Value} {F G : M α} {x z : Int32} {off : Int} {tgt : Nat} (hd : decode y.2.1 pc = .ok (.if_icmp .le off, 3)) (ht : (pc : Int) + off = (tgt : Int)) (kt : Ok Γ y d rv tgt lv st F) (kf : Ok Γ y d rv (pc + 3) lv st G) : Ok Γ y d rv pc lv (.int z :: .int x :: st) (if x ≤ z then F else G) := by
  intro μ r μ' h
  by_cases hq : x ≤ z
  · rw [if_pos hq] at h
    refine ⟨(kt μ r μ' h).1, ?_⟩
    intro p e s m args below meth c x0 s0 H locs ls hc h1 h2 hS hD hl
    exact lv_icmp_le hc.1 hc.2.1 hd ht (fun _ => (kt μ r μ' h).2 p e s m args below meth c x0 s0 H locs ls hc h1 h2 hS hD hl) (fun hn => by first | exact absurd hq hn | exact absurd hn hq)
  · rw [if_neg hq] at h
    refine ⟨(kf μ r μ' h).1, ?_⟩
    intro p e s m args below meth c x0 s0 H locs ls hc h1 h2 hS hD hl
    exact lv_icmp_le hc.1 hc.2.1 hd ht (fun hn => by first | exact absurd hn hq | exact absurd hq hn) (fun _ => (kf μ r μ' h).2 p e s m args below meth c x0 s0 H locs ls hc h1 h2 hS hD hl)
theorem ok_ifnull {α : Type} {Γ : Gam} {y : Mth} {d : Nat} {rv : Rv α} {pc : Nat} {lv : List (Nat × Value)} {st : List Value} {F G : M α} {r : Option Nat} {off : Int} {tgt : Nat} (hd : decode y.2.1 pc = .ok (.ifnull off, 3)) (ht : (pc : Int) + off = (tgt : Int)) (kt : Ok Γ y d rv tgt lv st F) (kf : Ok Γ y d rv (pc + 3) lv st G) : Ok Γ y d rv pc lv (va_rf r :: st) (if r = none then F else G) := by
  intro μ w μ' h
  cases r with
  | none =>
    rw [if_pos rfl] at h
    refine ⟨(kt μ w μ' h).1, ?_⟩
    intro p e s m args below meth c x0 s0 H locs ls hc h1 h2 hS hD hl
    exact lv_ifnullN hc.1 hc.2.1 hd ht ((kt μ w μ' h).2 p e s m args below meth c x0 s0 H locs ls hc h1 h2 hS hD hl)
  | some a =>
    rw [if_neg (fun q => nomatch q)] at h
    refine ⟨(kf μ w μ' h).1, ?_⟩
    intro p e s m args below meth c x0 s0 H locs ls hc h1 h2 hS hD hl
    exact lv_ifnull hc.1 hc.2.1 hd ((kf μ w μ' h).2 p e s m args below meth c x0 s0 H locs ls hc h1 h2 hS hD hl)
theorem ok_ifnonnull {α : Type} {Γ : Gam} {y : Mth} {d : Nat} {rv : Rv α} {pc : Nat} {lv : List (Nat × Value)} {st : List Value} {F G : M α} {r : Option Nat} {off : Int} {tgt : Nat} (hd : decode y.2.1 pc = .ok (.ifnonnull off, 3)) (ht : (pc : Int) + off = (tgt : Int)) (kt : Ok Γ y d rv tgt lv st F) (kf : Ok Γ y d rv (pc + 3) lv st G) : Ok Γ y d rv pc lv (va_rf r :: st) (if ¬ r = none then F else G) := by
  intro μ w μ' h
  cases r with
  | none =>
    rw [if_neg (fun q => q rfl)] at h
    refine ⟨(kf μ w μ' h).1, ?_⟩
    intro p e s m args below meth c x0 s0 H locs ls hc h1 h2 hS hD hl
    exact lv_ifnonnullN hc.1 hc.2.1 hd ((kf μ w μ' h).2 p e s m args below meth c x0 s0 H locs ls hc h1 h2 hS hD hl)
  | some a =>
    rw [if_pos (fun q => nomatch q)] at h
    refine ⟨(kt μ w μ' h).1, ?_⟩
    intro p e s m args below meth c x0 s0 H locs ls hc h1 h2 hS hD hl
    exact lv_ifnonnull hc.1 hc.2.1 hd ht ((kt μ w μ' h).2 p e s m args below meth c x0 s0 H locs ls hc h1 h2 hS hD hl)
theorem ok_acmp_eq {α : Type} {Γ : Gam} {y : Mth} {d : Nat} {rv : Rv α} {pc : Nat} {lv : List (Nat × Value)} {st : List Value} {F G : M α} {q r : Option Nat} {off : Int} {tgt : Nat} (hd : decode y.2.1 pc = .ok (.if_acmp .eq off, 3)) (ht : (pc : Int) + off = (tgt : Int)) (kt : Ok Γ y d rv tgt lv st F) (kf : Ok Γ y d rv (pc + 3) lv st G) : Ok Γ y d rv pc lv (va_rf r :: va_rf q :: st) (if q = r then F else G) := by
  intro μ w μ' h
  by_cases hq : q = r
  · rw [if_pos hq] at h
    refine ⟨(kt μ w μ' h).1, ?_⟩
    intro p e s m args below meth c x0 s0 H locs ls hc h1 h2 hS hD hl
    exact lv_acmp_eq hc.1 hc.2.1 hd ht (fun _ => (kt μ w μ' h).2 p e s m args below meth c x0 s0 H locs ls hc h1 h2 hS hD hl) (fun hn => by first | exact absurd hq hn | exact absurd hn hq)
  · rw [if_neg hq] at h
    refine ⟨(kf μ w μ' h).1, ?_⟩
    intro p e s m args below meth c x0 s0 H locs ls hc h1 h2 hS hD hl
    exact lv_acmp_eq hc.1 hc.2.1 hd ht (fun hn => by first | exact absurd hn hq | exact absurd hq hn) (fun _ => (kf μ w μ' h).2 p e s m args below meth c x0 s0 H locs ls hc h1 h2 hS hD hl)
theorem ok_acmp_ne {α : Type} {Γ : Gam} {y : Mth} {d : Nat} {rv : Rv α} {pc : Nat} {lv : List (Nat × Value)} {st : List Value} {F G : M α} {q r : Option Nat} {off : Int} {tgt : Nat} (hd : decode y.2.1 pc = .ok (.if_acmp .ne off, 3)) (ht : (pc : Int) + off = (tgt : Int)) (kt : Ok Γ y d rv tgt lv st F) (kf : Ok Γ y d rv (pc + 3) lv st G) : Ok Γ y d rv pc lv (va_rf r :: va_rf q :: st) (if ¬ q = r then F else G) := by
  intro μ w μ' h
  by_cases hq : ¬ q = r
  · rw [if_pos hq] at h
    refine ⟨(kt μ w μ' h).1, ?_⟩
    intro p e s m args below meth c x0 s0 H locs ls hc h1 h2 hS hD hl
    exact lv_acmp_ne hc.1 hc.2.1 hd ht (fun _ => (kt μ w μ' h).2 p e s m args below meth c x0 s0 H locs ls hc h1 h2 hS hD hl) (fun hn => by first | exact absurd hq hn | exact absurd hn hq)
  · rw [if_neg hq] at h
    refine ⟨(kf μ w μ' h).1, ?_⟩
    intro p e s m args below meth c x0 s0 H locs ls hc h1 h2 hS hD hl
    exact lv_acmp_ne hc.1 hc.2.1 hd ht (fun hn => by first | exact absurd hn hq | exact absurd hq hn) (fun _ => (kf μ w μ' h).2 p e s m args below meth c x0 s0 H locs ls hc h1 h2 hS hD hl)
theorem ok_lcmp {α : Type} {Γ : Gam} {y : Mth} {d : Nat} {rv : Rv α} {pc : Nat} {lv : List (Nat × Value)} {st : List Value} {F : M α} {x z : Int64} (hd : decode y.2.1 pc = .ok (.lcmp, 1)) (k : Ok Γ y d rv (pc + 1) lv (.int (lg_cmp x z) :: st) F) : Ok Γ y d rv pc lv (.long z :: .long x :: st) F :=
  ok_of (fun hc hl kk => W.lcmp hc.1 hc.2.1 hd (kk _ hl)) k
/-- a failing program: nothing is asked -/
theorem ok_fl {α : Type} {Γ : Gam} {y : Mth} {d : Nat} {rv : Rv α} {pc : Nat} {lv : List (Nat × Value)} {st : List Value} : Ok Γ y d rv pc lv st fl := fun _ _ _ h => nomatch h
/-- an instruction that may fail, and leaves the heap alone -/
theorem ok_ck {α : Type} {Γ : Gam} {y : Mth} {d : Nat} {rv : Rv α} {pc : Nat} {lv : List (Nat × Value)} {st : List Value} {F : M α} {b : Bool} (k : b = true → Ok Γ y d rv pc lv st F) : Ok Γ y d rv pc lv st (bn (ck b) fun _ => F) := by
  intro μ x μ' h
  obtain ⟨u, μ1, h1, h2⟩ := bn_some h
  unfold ck at h1
  by_cases hb : b = true
  · rw [if_pos hb] at h1
    cases h1
    exact k hb μ x μ' h2
  · rw [if_neg hb] at h1
    cases h1
theorem ok_idiv {α : Type} {Γ : Gam} {y : Mth} {d : Nat} {rv : Rv α} {pc : Nat} {lv : List (Nat × Value)} {st : List Value} {F : Int32 → M α} {x z : Int32} (hd : decode y.2.1 pc = .ok (.idiv, 1)) (k : Ok Γ y d rv (pc + 1) lv (.int (x / z) :: st) (F (x / z))) : Ok Γ y d rv pc lv (.int z :: .int x :: st) (bn (dvI x z) F) := by
  intro μ w μ' h
  obtain ⟨u, μ1, h1, h2⟩ := bn_some h
  unfold dvI at h1
  by_cases hz : z = 0
  · rw [if_pos hz] at h1; cases h1
  · rw [if_neg hz] at h1
    cases h1
    exact ok_of (fun hc hl kk => lv_idiv hc.1 hc.2.1 hd hz (kk _ hl)) k μ w μ' h2
theorem ok_irem {α : Type} {Γ : Gam} {y : Mth} {d : Nat} {rv : Rv α} {pc : Nat} {lv : List (Nat × Value)} {st : List Value} {F : Int32 → M α} {x z : Int32} (hd : decode y.2.1 pc = .ok (.irem, 1)) (k : Ok Γ y d rv (pc + 1) lv (.int (x - x / z * z) :: st) (F (x - x / z * z))) : Ok Γ y d rv pc lv (.int z :: .int x :: st) (bn (rmI x z) F) := by
  intro μ w μ' h
  obtain ⟨u, μ1, h1, h2⟩ := bn_some h
  unfold rmI at h1
  by_cases hz : z = 0
  · rw [if_pos hz] at h1; cases h1
  · rw [if_neg hz] at h1
    cases h1
    exact ok_of (fun hc hl kk => lv_irem hc.1 hc.2.1 hd hz (kk _ hl)) k μ w μ' h2
def swF {α : Type} (x : Int32) : List (Int32 × Nat × M α) → M α → M α
  | [], G => G
  | q :: r, G => if x = q.1 then q.2.2 else swF x r G
theorem swF_some {α : Type} {x : Int32} {L : List (Int32 × Nat × M α)} {G : M α} : (∃ q ∈ L, x = q.1 ∧ swF x L G = q.2.2) ∨ ((∀ q ∈ L, ¬ x = q.1) ∧ swF x L G = G) := by
  induction L with
  | nil => exact Or.inr ⟨fun q h => absurd h List.not_mem_nil, rfl⟩
  | cons a r ih =>
    by_cases hx : x = a.1
    · exact Or.inl ⟨a, List.mem_cons_self, hx, by unfold swF; rw [if_pos hx]⟩
    · have e : swF x (a :: r) G = swF x r G := by rw [swF, if_neg hx]
      rw [e]
      rcases ih with ⟨q, h1, h2, h3⟩ | ⟨h1, h2⟩
      · exact Or.inl ⟨q, List.mem_cons_of_mem _ h1, h2, h3⟩
      · refine Or.inr ⟨fun q h => ?_, h2⟩
        rcases List.mem_cons.mp h with rfl | h
        · exact hx
        · exact h1 q h
/-- the cases of a tableswitch, all of them in order -/
def tsOk (pc : Nat) (dflt lo hi : Int) (offs : List Int) (L : List (Int32 × Nat)) (dt : Nat) : Bool :=
  decide ((pc : Int) + dflt = (dt : Int)) && decide ((L.map fun q => q.1.toInt) = (List.range L.length).map fun i : Nat => lo + (i : Int)) && decide (hi = lo + (L.length : Int) - 1) && decide ((L.map fun q => (q.2 : Int)) = offs.map fun o => (pc : Int) + o)
theorem ok_tsw {α : Type} {Γ : Gam} {y : Mth} {d : Nat} {rv : Rv α} {pc : Nat} {lv : List (Nat × Value)} {st : List Value} {G : M α} {L : List (Int32 × Nat × M α)} {dt : Nat} {x : Int32} {dflt lo hi : Int} {offs : Array Int} {ln : Nat} (hd : decode y.2.1 pc = .ok (.tableswitch dflt lo hi offs, ln)) (ht : tsOk pc dflt lo hi offs.toList (L.map fun q => (q.1, q.2.1)) dt = true)
    (kt : ∀ q ∈ L, Ok Γ y d rv q.2.1 lv st q.2.2) (kf : Ok Γ y d rv dt lv st G) : Ok Γ y d rv pc lv (.int x :: st) (swF x L G) := by
  intro μ w μ' h
  simp only [tsOk, Bool.and_eq_true, decide_eq_true_eq] at ht
  obtain ⟨⟨⟨t1, t2⟩, t3⟩, t4⟩ := ht
  simp only [List.map_map, List.length_map] at t2 t3 t4
  rcases swF_some (x := x) (L := L) (G := G) with ⟨q, hq, hx, e⟩ | ⟨hq, e⟩
  · rw [e] at h
    refine ⟨(kt q hq μ w μ' h).1, ?_⟩
    intro p e s m args below meth c x0 s0 H locs ls hc h1 h2 hS hD hl
    obtain ⟨i, hi⟩ := List.getElem?_of_mem hq
    have hil : i < L.length := (List.getElem?_eq_some_iff.mp hi).1
    have e1 : q.1.toInt = lo + (i : Int) := by
      have z := congrArg (fun l => l[i]?) t2
      simp only [List.getElem?_map, hi, List.getElem?_range hil] at z
      simpa using z
    have hxi : x.toInt = lo + (i : Int) := by rw [hx]; exact e1
    have e2 : ∃ o, offs.toList[i]? = some o ∧ (q.2.1 : Int) = (pc : Int) + o := by
      have z := congrArg (fun l => l[i]?) t4
      simp only [List.getElem?_map, hi] at z
      cases ho : offs.toList[i]? with
      | none => rw [ho] at z; simp at z
      | some o => rw [ho] at z; exact ⟨o, rfl, by simpa using z⟩
    obtain ⟨o, ho, hto⟩ := e2
    refine lv_tableIn (off := o) (tgt := q.2.1) hc.1 hc.2.1 hd (by omega) (by omega) ?_ hto.symm ((kt q hq μ w μ' h).2 p e s m args below meth c x0 s0 H locs ls hc h1 h2 hS hD hl)
    rw [show (x.toInt - lo).toNat = i by omega]
    simpa using ho
  · rw [e] at h
    refine ⟨(kf μ w μ' h).1, ?_⟩
    intro p e s m args below meth c x0 s0 H locs ls hc h1 h2 hS hD hl
    refine lv_tableOut (tgt := dt) hc.1 hc.2.1 hd ?_ t1 ((kf μ w μ' h).2 p e s m args below meth c x0 s0 H locs ls hc h1 h2 hS hD hl)
    by_cases hlo : x.toInt < lo
    · exact Or.inl hlo
    · refine Or.inr ?_
      by_cases hhi : hi < x.toInt
      · exact hhi
      · exfalso
        have hil : (x.toInt - lo).toNat < L.length := by omega
        obtain ⟨q, hqi⟩ : ∃ q, L[(x.toInt - lo).toNat]? = some q := ⟨_, List.getElem?_eq_getElem hil⟩
        have z := congrArg (fun l => l[(x.toInt - lo).toNat]?) t2
        simp only [List.getElem?_map, hqi, List.getElem?_range hil] at z
        have e1 : q.1.toInt = lo + ((x.toInt - lo).toNat : Int) := by simpa using z
        exact hq q (List.mem_of_getElem? hqi) (Int32.toInt_inj.mp (by omega))
/-- the cases of a lookupswitch -/
def lsOk (pc : Nat) (dflt : Int) (ps : List (Int × Int)) (L : List (Int32 × Nat)) (dt : Nat) : Bool :=
  decide ((pc : Int) + dflt = (dt : Int)) && decide ((L.map fun q => (q.1.toInt, (q.2 : Int))) = ps.map fun o => (o.1, (pc : Int) + o.2)) && (ps.zip (ps.drop 1)).all (fun (a, next) => a.1 < next.1)
theorem ls_off {L : List (Int32 × Nat)} {ps : List (Int × Int)} {dflt : Int} {pc dt : Nat} {x : Int32} (h : (L.map fun q => (q.1.toInt, (q.2 : Int))) = ps.map fun o => (o.1, (pc : Int) + o.2)) :
    (∃ (q : Int32 × Nat) (o : Int), q ∈ L ∧ x = q.1 ∧ Op.lookupswitch.offset ps dflt x.toInt = o ∧ (pc : Int) + o = (q.2 : Int)) ∨ ((∀ q ∈ L, ¬ x = q.1) ∧ Op.lookupswitch.offset ps dflt x.toInt = dflt) := by
  induction ps generalizing L with
  | nil =>
    cases L with
    | nil => exact Or.inr ⟨fun q h => absurd h List.not_mem_nil, rfl⟩
    | cons a r => cases h
  | cons o r ih =>
    cases L with
    | nil => cases h
    | cons a L =>
      simp only [List.map_cons, List.cons.injEq, Prod.mk.injEq] at h
      obtain ⟨⟨h1, h2⟩, h3⟩ := h
      by_cases hx : x = a.1
      · refine Or.inl ⟨a, o.2, List.mem_cons_self, hx, ?_, h2.symm⟩
        subst hx
        simp [Op.lookupswitch.offset, h1]
      · have e : Op.lookupswitch.offset (o :: r) dflt x.toInt = Op.lookupswitch.offset r dflt x.toInt := lv_osw (a := o.1) (o := o.2) hx h1
        rw [e]
        rcases ih h3 with ⟨q, z, g1, g2, g3, g4⟩ | ⟨g1, g2⟩
        · exact Or.inl ⟨q, z, List.mem_cons_of_mem _ g1, g2, g3, g4⟩
        · refine Or.inr ⟨fun q h => ?_, g2⟩
          rcases List.mem_cons.mp h with rfl | h
          · exact hx
          · exact g1 q h
theorem ls_pair {ps : List (Int × Int)} (h : (ps.zip (ps.drop 1)).all (fun (a, next) => a.1 < next.1) = true) : ps.Pairwise (fun a b => a.1 < b.1) := by
  induction ps with
  | nil => exact List.Pairwise.nil
  | cons a r ih =>
    cases r with
    | nil => exact List.pairwise_singleton _ _
    | cons b r =>
      simp only [List.drop_succ_cons, List.drop_zero, List.zip_cons_cons, List.all_cons, Bool.and_eq_true, decide_eq_true_eq] at h ih
      have hp := ih h.2
      refine List.Pairwise.cons (fun z hz => ?_) hp
      rcases List.mem_cons.mp hz with rfl | hz
      · exact h.1
      · exact Int.lt_trans h.1 (List.rel_of_pairwise_cons hp hz)
theorem ls_same {α : Type} {L : List (Int32 × Nat × α)} (hp : (L.map fun q => (q.1.toInt, (q.2.1 : Int))).Pairwise (fun a b => a.1 < b.1)) {a b : Int32 × Nat × α} (ha : a ∈ L) (hb : b ∈ L) (hab : a.1 = b.1) : a.2.1 = b.2.1 := by
  induction L with
  | nil => exact absurd ha List.not_mem_nil
  | cons c r ih =>
    simp only [List.map_cons] at hp
    obtain ⟨h1, h2⟩ := List.pairwise_cons.mp hp
    rcases List.mem_cons.mp ha with e1 | ha1
    · rcases List.mem_cons.mp hb with e2 | hb1
      · rw [e1, e2]
      · have z := h1 _ (List.mem_map.mpr ⟨b, hb1, rfl⟩)
        simp only [← e1, hab] at z
        exact absurd z (Int.lt_irrefl _)
    · rcases List.mem_cons.mp hb with e2 | hb1
      · have z := h1 _ (List.mem_map.mpr ⟨a, ha1, rfl⟩)
        simp only [← e2, hab] at z
        exact absurd z (Int.lt_irrefl _)
      · exact ih h2 ha1 hb1
theorem ok_lsw {α : Type} {Γ : Gam} {y : Mth} {d : Nat} {rv : Rv α} {pc : Nat} {lv : List (Nat × Value)} {st : List Value} {G : M α} {L : List (Int32 × Nat × M α)} {dt : Nat} {x : Int32} {dflt : Int} {ps : Array (Int × Int)} {ln : Nat} (hd : decode y.2.1 pc = .ok (.lookupswitch dflt ps, ln)) (ht : lsOk pc dflt ps.toList (L.map fun q => (q.1, q.2.1)) dt = true)
    (kt : ∀ q ∈ L, Ok Γ y d rv q.2.1 lv st q.2.2) (kf : Ok Γ y d rv dt lv st G) : Ok Γ y d rv pc lv (.int x :: st) (swF x L G) := by
  intro μ w μ' h
  simp only [lsOk, Bool.and_eq_true, decide_eq_true_eq] at ht
  obtain ⟨⟨t1, t2⟩, t3⟩ := ht
  rcases swF_some (x := x) (L := L) (G := G) with ⟨q, hq, hx, e⟩ | ⟨hq, e⟩
  · rw [e] at h
    refine ⟨(kt q hq μ w μ' h).1, ?_⟩
    intro p e s m args below meth c x0 s0 H locs ls hc h1 h2 hS hD hl
    rcases ls_off (x := x) (dflt := dflt) (dt := dt) t2 with ⟨q', o, g1, g2, g3, g4⟩ | ⟨g1, g2⟩
    · obtain ⟨q2, hq2, rfl⟩ := List.mem_map.mp g1
      -- the first case with this number is the one that is taken; all numbers differ, so it is q
      have hL : ∀ a ∈ L, ∀ b ∈ L, a.1 = b.1 → a.2.1 = b.2.1 := by
        intro a ha b hb hab
        have hs : (L.map fun q => (q.1.toInt, (q.2.1 : Int))) = ps.toList.map fun o => (o.1, (pc : Int) + o.2) := by
          simpa [List.map_map, Function.comp_def] using t2
        have hp : ps.toList.Pairwise (fun a b => a.1 < b.1) := ls_pair t3
        have hp2 : (L.map fun q => (q.1.toInt, (q.2.1 : Int))).Pairwise (fun a b => a.1 < b.1) := by
          rw [hs]
          exact List.Pairwise.map _ (fun _ _ h => h) hp
        exact ls_same hp2 ha hb hab
      have e1 : q2.2.1 = q.2.1 := hL q2 hq2 q hq (g2.symm.trans hx)
      refine lv_lookup (off := o) (tgt := q.2.1) hc.1 hc.2.1 hd t3 g3 (by rw [g4]; simp [e1]) ((kt q hq μ w μ' h).2 p e s m args below meth c x0 s0 H locs ls hc h1 h2 hS hD hl)
    · exact absurd hx (g1 (q.1, q.2.1) (List.mem_map.mpr ⟨q, hq, rfl⟩))
  · rw [e] at h
    refine ⟨(kf μ w μ' h).1, ?_⟩
    intro p e s m args below meth c x0 s0 H locs ls hc h1 h2 hS hD hl
    rcases ls_off (x := x) (dflt := dflt) (dt := dt) t2 with ⟨q', o, g1, g2, g3, g4⟩ | ⟨g1, g2⟩
    · obtain ⟨q2, hq2, rfl⟩ := List.mem_map.mp g1
      exact absurd g2 (hq q2 hq2)
    · exact lv_lookup (off := dflt) (tgt := dt) hc.1 hc.2.1 hd t3 g2 t1 ((kf μ w μ' h).2 p e s m args below meth c x0 s0 H locs ls hc h1 h2 hS hD hl)
