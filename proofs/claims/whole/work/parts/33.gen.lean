def F_X12_wordAt_L95 (k5 : Nat → Int32 → Int32 → Int32 → Int32 → M Int32) (this : Nat) (x1 : Int32) (x2 : Int32) (x3 : Int32) (x5 : Int32) (x6 : Int32) : M Int32 := if x6 = 0 then k5 this x1 x2 (x3 + (1 : Int32)) (x5 + (1 : Int32)) else rt x3
set_option maxRecDepth 100000 in
theorem O_X12_wordAt_L95 (Γ : Gam) (k5 : Nat → Int32 → Int32 → Int32 → Int32 → M Int32) (hk5 : ∀ (z0 : Nat) (z1 : Int32) (z2 : Int32) (z3 : Int32) (z4 : Int32), Ok Γ mX12_wordAt 4 (qo Γ vI) 5 [(0, va_rf (some z0)), (1, .int z1), (2, .int z2), (3, .int z3), (4, .int z4)] [] (k5 z0 z1 z2 z3 z4)) (this : Nat) (x1 : Int32) (x2 : Int32) (x3 : Int32) (x5 : Int32) (x6 : Int32) : Ok Γ mX12_wordAt 4 (qo Γ vI) 95 [(0, va_rf (some this)), (1, .int x1), (2, .int x2), (3, .int x3), (5, .int x5), (6, .int x6)] [] (F_X12_wordAt_L95 k5 this x1 x2 x3 x5 x6) := by
  unfold F_X12_wordAt_L95
  refine ok_iload (dd TX12_wordAt_1 11 rfl) 5 rfl ?_
  refine ok_if_eq (tgt := 102) (dd TX12_wordAt_1 12 rfl) (by decide) ?_ ?_
  · refine ok_iinc (lv' := [(3, .int (x3 + (1 : Int32))), (0, va_rf (some this)), (1, .int x1), (2, .int x2), (5, .int x5), (6, .int x6)]) (dd TX12_wordAt_1 15 rfl) 3 rfl (congrArg (fun q : Int32 => x3 + q) (show Int32.ofInt (1) = (1 : Int32) from by decide)) (by decide) (by first | rfl | (simp only [List.filter, cat_rf]; rfl)) ?_
    refine ok_iload (dd TX12_wordAt_1 16 rfl) 4 rfl ?_
    refine ok_iconst (v := (1 : Int32)) (dd TX12_wordAt_1 17 rfl) (by decide) ?_
    refine ok_iadd (dd TX12_wordAt_1 18 rfl) ?_
    refine ok_istore (lv' := [(4, .int (x5 + (1 : Int32))), (3, .int (x3 + (1 : Int32))), (0, va_rf (some this)), (1, .int x1), (2, .int x2), (5, .int x5), (6, .int x6)]) (dd TX12_wordAt_1 19 rfl) (by decide) (by first | rfl | (simp only [List.filter, cat_rf]; rfl)) ?_
    refine ok_goto (tgt := 5) (dd TX12_wordAt_1 20 rfl) (by decide) ?_
    refine ok_sub [2, 3, 4, 1, 0] rfl ?_
    exact hk5 this x1 x2 (x3 + (1 : Int32)) (x5 + (1 : Int32))
  · refine ok_iload_n (dd TX12_wordAt_1 13 rfl) 3 rfl ?_
    exact ok_ireturn (dd TX12_wordAt_1 14 rfl) rfl
def F_X12_wordAt_L87 (k5 : Nat → Int32 → Int32 → Int32 → Int32 → M Int32) (k47 : Nat → Int32 → Int32 → Int32 → Int32 → Int32 → Int32 → Int32 → M Int32) (this : Nat) (x1 : Int32) (x2 : Int32) (x3 : Int32) (x4 : Int32) (x5 : Int32) (x7 : Int32) (y0 : Int32) : M Int32 := k47 this x1 x2 x3 x4 x5 y0 (x7 + (1 : Int32))
set_option maxRecDepth 100000 in
theorem O_X12_wordAt_L87 (Γ : Gam) (k5 : Nat → Int32 → Int32 → Int32 → Int32 → M Int32) (hk5 : ∀ (z0 : Nat) (z1 : Int32) (z2 : Int32) (z3 : Int32) (z4 : Int32), Ok Γ mX12_wordAt 4 (qo Γ vI) 5 [(0, va_rf (some z0)), (1, .int z1), (2, .int z2), (3, .int z3), (4, .int z4)] [] (k5 z0 z1 z2 z3 z4)) (k47 : Nat → Int32 → Int32 → Int32 → Int32 → Int32 → Int32 → Int32 → M Int32) (hk47 : ∀ (z0 : Nat) (z1 : Int32) (z2 : Int32) (z3 : Int32) (z4 : Int32) (z5 : Int32) (z6 : Int32) (z7 : Int32), Ok Γ mX12_wordAt 4 (qo Γ vI) 47 [(0, va_rf (some z0)), (1, .int z1), (2, .int z2), (3, .int z3), (4, .int z4), (5, .int z5), (6, .int z6), (7, .int z7)] [] (k47 z0 z1 z2 z3 z4 z5 z6 z7)) (this : Nat) (x1 : Int32) (x2 : Int32) (x3 : Int32) (x4 : Int32) (x5 : Int32) (x7 : Int32) (y0 : Int32) : Ok Γ mX12_wordAt 4 (qo Γ vI) 87 [(0, va_rf (some this)), (1, .int x1), (2, .int x2), (3, .int x3), (4, .int x4), (5, .int x5), (7, .int x7)] [.int y0] (F_X12_wordAt_L87 k5 k47 this x1 x2 x3 x4 x5 x7 y0) := by
  unfold F_X12_wordAt_L87
  refine ok_istore (lv' := [(6, .int y0), (0, va_rf (some this)), (1, .int x1), (2, .int x2), (3, .int x3), (4, .int x4), (5, .int x5), (7, .int x7)]) (dd TX12_wordAt_1 8 rfl) (by decide) (by first | rfl | (simp only [List.filter, cat_rf]; rfl)) ?_
  refine ok_iinc (lv' := [(7, .int (x7 + (1 : Int32))), (6, .int y0), (0, va_rf (some this)), (1, .int x1), (2, .int x2), (3, .int x3), (4, .int x4), (5, .int x5)]) (dd TX12_wordAt_1 9 rfl) 7 rfl (congrArg (fun q : Int32 => x7 + q) (show Int32.ofInt (1) = (1 : Int32) from by decide)) (by decide) (by first | rfl | (simp only [List.filter, cat_rf]; rfl)) ?_
  refine ok_goto (tgt := 47) (dd TX12_wordAt_1 10 rfl) (by decide) ?_
  refine ok_sub [2, 3, 4, 5, 6, 7, 1, 0] rfl ?_
  exact hk47 this x1 x2 x3 x4 x5 y0 (x7 + (1 : Int32))
def F_X12_wordAt_L47 (k5 : Nat → Int32 → Int32 → Int32 → Int32 → M Int32) : Nat → Nat → Int32 → Int32 → Int32 → Int32 → Int32 → Int32 → Int32 → M Int32
  | 0 => fun _ _ _ _ _ _ _ _ => fl
  | n + 1 => fun this x1 x2 x3 x4 x5 x6 x7 => if x6 = 0 then F_X12_wordAt_L95 k5 this x1 x2 x3 x5 x6 else if (x2 - x1) ≤ x7 then F_X12_wordAt_L95 k5 this x1 x2 x3 x5 x6 else bn (cK 3) fun r7 => bn (kRc r7) fun b8 => bn (F_J0_charAt_5068e b8 (x4 + x7)) fun v9 => bn (gP 12 0 (some this)) fun v10 => bn (lI 160 v10 (x1 + x7)) fun v11 => if ¬ v9 = v11 then F_X12_wordAt_L87 k5 (F_X12_wordAt_L47 k5 n) this x1 x2 x3 x4 x5 x7 (0 : Int32) else F_X12_wordAt_L87 k5 (F_X12_wordAt_L47 k5 n) this x1 x2 x3 x4 x5 x7 (1 : Int32)
set_option maxRecDepth 100000 in
theorem O_X12_wordAt_L47 (Γ : Gam) (k5 : Nat → Int32 → Int32 → Int32 → Int32 → M Int32) (hk5 : ∀ (z0 : Nat) (z1 : Int32) (z2 : Int32) (z3 : Int32) (z4 : Int32), Ok Γ mX12_wordAt 4 (qo Γ vI) 5 [(0, va_rf (some z0)), (1, .int z1), (2, .int z2), (3, .int z3), (4, .int z4)] [] (k5 z0 z1 z2 z3 z4)) (n : Nat) : ∀ (this : Nat) (x1 : Int32) (x2 : Int32) (x3 : Int32) (x4 : Int32) (x5 : Int32) (x6 : Int32) (x7 : Int32), Ok Γ mX12_wordAt 4 (qo Γ vI) 47 [(0, va_rf (some this)), (1, .int x1), (2, .int x2), (3, .int x3), (4, .int x4), (5, .int x5), (6, .int x6), (7, .int x7)] [] (F_X12_wordAt_L47 k5 n this x1 x2 x3 x4 x5 x6 x7) := by
  induction n with
  | zero => intro this x1 x2 x3 x4 x5 x6 x7; exact ok_fl
  | succ n ih =>
    intro this x1 x2 x3 x4 x5 x6 x7
    rw [F_X12_wordAt_L47]
    refine ok_iload (dd TX12_wordAt_0 26 rfl) 6 rfl ?_
    refine ok_if_eq (tgt := 95) (dd TX12_wordAt_0 27 rfl) (by decide) ?_ ?_
    · refine ok_sub [0, 1, 2, 3, 5, 6] rfl ?_
      exact O_X12_wordAt_L95 Γ k5 hk5 this x1 x2 x3 x5 x6
    · refine ok_iload (dd TX12_wordAt_0 28 rfl) 7 rfl ?_
      refine ok_iload_n (dd TX12_wordAt_0 29 rfl) 2 rfl ?_
      refine ok_iload_n (dd TX12_wordAt_0 30 rfl) 1 rfl ?_
      refine ok_isub (dd TX12_wordAt_0 31 rfl) ?_
      refine ok_icmp_ge (tgt := 95) (dd TX12_wordAt_0 32 rfl) (by decide) ?_ ?_
      · refine ok_sub [0, 1, 2, 3, 5, 6] rfl ?_
        exact O_X12_wordAt_L95 Γ k5 hk5 this x1 x2 x3 x5 x6
      · refine ok_ldcS2 rfl (dd TX12_wordAt_0 33 rfl) (fun r7 => ?_)
        refine ok_iload (dd TX12_wordAt_0 34 rfl) 4 rfl ?_
        refine ok_iload (dd TX12_wordAt_0 35 rfl) 7 rfl ?_
        refine ok_iadd (dd TX12_wordAt_0 36 rfl) ?_
        refine ok_callK [.int (x4 + x7)] [] (fun b8 => C_J0_charAt_5068e Γ b8 (x4 + x7)) cy_J0_charAt_5068e ml_RX12_122 im_J0_charAt_5068e se_J0_charAt_5068e (by decide) (Nat.le_of_ble_eq_true rfl) rfl (dd TX12_wordAt_0 37 rfl) (fun v9 => ?_)
        refine ok_aload_n (dd TX12_wordAt_0 38 rfl) 0 rfl ?_
        refine ok_gP fl_RX12_9 rfl (dd TX12_wordAt_0 39 rfl) (fun v10 => ?_)
        refine ok_iload_n (dd TX12_wordAt_1 0 rfl) 1 rfl ?_
        refine ok_iload (dd TX12_wordAt_1 1 rfl) 7 rfl ?_
        refine ok_iadd (dd TX12_wordAt_1 2 rfl) ?_
        refine ok_lI (kd := 160) (by decide) rfl (dd TX12_wordAt_1 3 rfl) (fun v11 => ?_)
        refine ok_icmp_ne (tgt := 86) (dd TX12_wordAt_1 4 rfl) (by decide) ?_ ?_
        · refine ok_iconst (v := (0 : Int32)) (dd TX12_wordAt_1 7 rfl) (by decide) ?_
          refine ok_sub [0, 1, 2, 3, 4, 5, 7] rfl ?_
          exact O_X12_wordAt_L87 Γ k5 hk5 (F_X12_wordAt_L47 k5 n) ih this x1 x2 x3 x4 x5 x7 (0 : Int32)
        · refine ok_iconst (v := (1 : Int32)) (dd TX12_wordAt_1 5 rfl) (by decide) ?_
          refine ok_goto (tgt := 87) (dd TX12_wordAt_1 6 rfl) (by decide) ?_
          refine ok_sub [0, 1, 2, 3, 4, 5, 7] rfl ?_
          exact O_X12_wordAt_L87 Γ k5 hk5 (F_X12_wordAt_L47 k5 n) ih this x1 x2 x3 x4 x5 x7 (1 : Int32)
def F_X12_wordAt_L42 (k5 : Nat → Int32 → Int32 → Int32 → Int32 → M Int32) (this : Nat) (x1 : Int32) (x2 : Int32) (x3 : Int32) (x4 : Int32) (x5 : Int32) (y0 : Int32) : M Int32 := F_X12_wordAt_L47 k5 FU this x1 x2 x3 x4 x5 y0 (0 : Int32)
set_option maxRecDepth 100000 in
theorem O_X12_wordAt_L42 (Γ : Gam) (k5 : Nat → Int32 → Int32 → Int32 → Int32 → M Int32) (hk5 : ∀ (z0 : Nat) (z1 : Int32) (z2 : Int32) (z3 : Int32) (z4 : Int32), Ok Γ mX12_wordAt 4 (qo Γ vI) 5 [(0, va_rf (some z0)), (1, .int z1), (2, .int z2), (3, .int z3), (4, .int z4)] [] (k5 z0 z1 z2 z3 z4)) (this : Nat) (x1 : Int32) (x2 : Int32) (x3 : Int32) (x4 : Int32) (x5 : Int32) (y0 : Int32) : Ok Γ mX12_wordAt 4 (qo Γ vI) 42 [(0, va_rf (some this)), (1, .int x1), (2, .int x2), (3, .int x3), (4, .int x4), (5, .int x5)] [.int y0] (F_X12_wordAt_L42 k5 this x1 x2 x3 x4 x5 y0) := by
  unfold F_X12_wordAt_L42
  refine ok_istore (lv' := [(6, .int y0), (0, va_rf (some this)), (1, .int x1), (2, .int x2), (3, .int x3), (4, .int x4), (5, .int x5)]) (dd TX12_wordAt_0 23 rfl) (by decide) (by first | rfl | (simp only [List.filter, cat_rf]; rfl)) ?_
  refine ok_iconst (v := (0 : Int32)) (dd TX12_wordAt_0 24 rfl) (by decide) ?_
  refine ok_istore (lv' := [(7, .int (0 : Int32)), (6, .int y0), (0, va_rf (some this)), (1, .int x1), (2, .int x2), (3, .int x3), (4, .int x4), (5, .int x5)]) (dd TX12_wordAt_0 25 rfl) (by decide) (by first | rfl | (simp only [List.filter, cat_rf]; rfl)) ?_
  refine ok_sub [2, 3, 4, 5, 6, 7, 1, 0] rfl ?_
  exact O_X12_wordAt_L47 Γ k5 hk5 FU this x1 x2 x3 x4 x5 y0 (0 : Int32)
def F_X12_wordAt_L5 : Nat → Nat → Int32 → Int32 → Int32 → Int32 → M Int32
  | 0 => fun _ _ _ _ _ => fl
  | n + 1 => fun this x1 x2 x3 x4 => bn (cK 3) fun r1 => bn (kRc r1) fun b2 => bn (F_J0_length_8abf5 b2) fun v3 => if v3 ≤ x4 then rt (-1 : Int32) else bn (cK 3) fun r4 => bn (kRc r4) fun b5 => bn (F_J0_indexOf_7cf53 b5 (32 : Int32) x4) fun v6 => if ¬ (v6 - x4) = (x2 - x1) then F_X12_wordAt_L42 (F_X12_wordAt_L5 n) this x1 x2 x3 x4 v6 (0 : Int32) else F_X12_wordAt_L42 (F_X12_wordAt_L5 n) this x1 x2 x3 x4 v6 (1 : Int32)
set_option maxRecDepth 100000 in
theorem O_X12_wordAt_L5 (Γ : Gam) (n : Nat) : ∀ (this : Nat) (x1 : Int32) (x2 : Int32) (x3 : Int32) (x4 : Int32), Ok Γ mX12_wordAt 4 (qo Γ vI) 5 [(0, va_rf (some this)), (1, .int x1), (2, .int x2), (3, .int x3), (4, .int x4)] [] (F_X12_wordAt_L5 n this x1 x2 x3 x4) := by
  induction n with
  | zero => intro this x1 x2 x3 x4; exact ok_fl
  | succ n ih =>
    intro this x1 x2 x3 x4
    rw [F_X12_wordAt_L5]
    refine ok_iload (dd TX12_wordAt_0 4 rfl) 4 rfl ?_
    refine ok_ldcS2 rfl (dd TX12_wordAt_0 5 rfl) (fun r1 => ?_)
    refine ok_callK [] [.int x4] (fun b2 => C_J0_length_8abf5 Γ b2) cy_J0_length_8abf5 ml_RX12_112 im_J0_length_8abf5 se_J0_length_8abf5 (by decide) (Nat.le_of_ble_eq_true rfl) rfl (dd TX12_wordAt_0 6 rfl) (fun v3 => ?_)
    refine ok_icmp_ge (tgt := 114) (dd TX12_wordAt_0 7 rfl) (by decide) ?_ ?_
    · refine ok_iconst (v := (-1 : Int32)) (dd TX12_wordAt_1 21 rfl) (by decide) ?_
      exact ok_ireturn (dd TX12_wordAt_1 22 rfl) rfl
    · refine ok_ldcS2 rfl (dd TX12_wordAt_0 8 rfl) (fun r4 => ?_)
      refine ok_bipush (v := (32 : Int32)) (dd TX12_wordAt_0 9 rfl) (by decide) ?_
      refine ok_iload (dd TX12_wordAt_0 10 rfl) 4 rfl ?_
      refine ok_callK [.int (32 : Int32), .int x4] [] (fun b5 => C_J0_indexOf_7cf53 Γ b5 (32 : Int32) x4) cy_J0_indexOf_7cf53 ml_RX12_118 im_J0_indexOf_7cf53 se_J0_indexOf_7cf53 (by decide) (Nat.le_of_ble_eq_true rfl) rfl (dd TX12_wordAt_0 11 rfl) (fun v6 => ?_)
      refine ok_istore (lv' := [(5, .int v6), (0, va_rf (some this)), (1, .int x1), (2, .int x2), (3, .int x3), (4, .int x4)]) (dd TX12_wordAt_0 12 rfl) (by decide) (by first | rfl | (simp only [List.filter, cat_rf]; rfl)) ?_
      refine ok_iload (dd TX12_wordAt_0 13 rfl) 0 rfl ?_
      refine ok_iload (dd TX12_wordAt_0 14 rfl) 5 rfl ?_
      refine ok_isub (dd TX12_wordAt_0 15 rfl) ?_
      refine ok_iload_n (dd TX12_wordAt_0 16 rfl) 3 rfl ?_
      refine ok_iload_n (dd TX12_wordAt_0 17 rfl) 2 rfl ?_
      refine ok_isub (dd TX12_wordAt_0 18 rfl) ?_
      refine ok_icmp_ne (tgt := 41) (dd TX12_wordAt_0 19 rfl) (by decide) ?_ ?_
      · refine ok_iconst (v := (0 : Int32)) (dd TX12_wordAt_0 22 rfl) (by decide) ?_
        refine ok_sub [1, 2, 3, 4, 5, 0] rfl ?_
        exact O_X12_wordAt_L42 Γ (F_X12_wordAt_L5 n) ih this x1 x2 x3 x4 v6 (0 : Int32)
      · refine ok_iconst (v := (1 : Int32)) (dd TX12_wordAt_0 20 rfl) (by decide) ?_
        refine ok_goto (tgt := 42) (dd TX12_wordAt_0 21 rfl) (by decide) ?_
        refine ok_sub [1, 2, 3, 4, 5, 0] rfl ?_
        exact O_X12_wordAt_L42 Γ (F_X12_wordAt_L5 n) ih this x1 x2 x3 x4 v6 (1 : Int32)
def F_X12_wordAt (this : Nat) (p0 : Int32) (p1 : Int32) : M Int32 := F_X12_wordAt_L5 FU this p0 p1 (0 : Int32) (0 : Int32)
set_option maxRecDepth 100000 in
theorem C_X12_wordAt (Γ : Gam) (this : Nat) (p0 : Int32) (p1 : Int32) : Ct Γ mX12_wordAt 4 vI [va_rf (some this), .int p0, .int p1] (F_X12_wordAt this p0 p1) := by
  refine ct_in (lv := [(0, va_rf (some this)), (1, .int p0), (2, .int p1)]) (by decide) (by first | rfl | (simp only [lv_args, cat_rf]; rfl)) (by first | exact Nat.le_of_ble_eq_true rfl | (rw [lg_len]; simp only [List.map_cons, List.map_nil, cat_rf]; exact Nat.le_of_ble_eq_true rfl)) ?_
  unfold F_X12_wordAt
  refine ok_iconst (v := (0 : Int32)) (dd TX12_wordAt_0 0 rfl) (by decide) ?_
  refine ok_istore_n (lv' := [(3, .int (0 : Int32)), (0, va_rf (some this)), (1, .int p0), (2, .int p1)]) (dd TX12_wordAt_0 1 rfl) (by decide) (by first | rfl | (simp only [List.filter, cat_rf]; rfl)) ?_
  refine ok_iconst (v := (0 : Int32)) (dd TX12_wordAt_0 2 rfl) (by decide) ?_
  refine ok_istore (lv' := [(4, .int (0 : Int32)), (3, .int (0 : Int32)), (0, va_rf (some this)), (1, .int p0), (2, .int p1)]) (dd TX12_wordAt_0 3 rfl) (by decide) (by first | rfl | (simp only [List.filter, cat_rf]; rfl)) ?_
  refine ok_sub [2, 3, 4, 1, 0] rfl ?_
  exact O_X12_wordAt_L5 Γ FU this p0 p1 (0 : Int32) (0 : Int32)
def F_X12_next_L283 (y0 : Int32) (y1 : Option Nat) : M Unit := bn (wI 12 38 y1 y0) fun _ => rt ()
set_option maxRecDepth 100000 in
theorem O_X12_next_L283 (Γ : Gam) (y0 : Int32) (y1 : Option Nat) : Ok Γ mX12_next 5 (qo Γ vV) 283 [] [.int y0, va_rf y1] (F_X12_next_L283 y0 y1) := by
  unfold F_X12_next_L283
  refine ok_wI fl_RX12_134 (Or.inl rfl) (tyX12_ok 38 (by decide)) (by decide) rfl (dd TX12_next_3 23 rfl) ?_
  refine ok_goto (tgt := 322) (dd TX12_next_3 24 rfl) (by decide) ?_
  exact ok_return (dd TX12_next_4 3 rfl) rfl
def F_X12_next_L268 (this : Nat) : M Unit := bn (gI 12 39 (some this)) fun v42 => if v42 ≤ (999999 : Int32) then F_X12_next_L283 (1 : Int32) (some this) else F_X12_next_L283 (4 : Int32) (some this)
set_option maxRecDepth 100000 in
theorem O_X12_next_L268 (Γ : Gam) (this : Nat) : Ok Γ mX12_next 5 (qo Γ vV) 268 [(0, va_rf (some this))] [] (F_X12_next_L268 this) := by
  unfold F_X12_next_L268
  refine ok_aload_n (dd TX12_next_3 15 rfl) 0 rfl ?_
  refine ok_aload_n (dd TX12_next_3 16 rfl) 0 rfl ?_
  refine ok_gI fl_RX12_144 rfl (dd TX12_next_3 17 rfl) (fun v42 => ?_)
  refine ok_ldc (v := (999999 : Int32)) (dd TX12_next_3 18 rfl) ct_RX12_150 ?_
  refine ok_icmp_le (tgt := 282) (dd TX12_next_3 19 rfl) (by decide) ?_ ?_
  · refine ok_iconst (v := (1 : Int32)) (dd TX12_next_3 22 rfl) (by decide) ?_
    refine ok_sub [] rfl ?_
    exact O_X12_next_L283 Γ (1 : Int32) (some this)
  · refine ok_iconst (v := (4 : Int32)) (dd TX12_next_3 20 rfl) (by decide) ?_
    refine ok_goto (tgt := 283) (dd TX12_next_3 21 rfl) (by decide) ?_
    refine ok_sub [] rfl ?_
    exact O_X12_next_L283 Γ (4 : Int32) (some this)
def F_X12_next_L252 (k189 : Nat → M Unit) (this : Nat) (y0 : Int32) (y1 : Option Nat) : M Unit := bn (wI 12 39 y1 y0) fun _ => bn (gI 12 37 (some this)) fun v43 => bn (wI 12 37 (some this) (v43 + (1 : Int32))) fun _ => k189 this
set_option maxRecDepth 100000 in
theorem O_X12_next_L252 (Γ : Gam) (k189 : Nat → M Unit) (hk189 : ∀ (z0 : Nat), Ok Γ mX12_next 5 (qo Γ vV) 189 [(0, va_rf (some z0))] [] (k189 z0)) (this : Nat) (y0 : Int32) (y1 : Option Nat) : Ok Γ mX12_next 5 (qo Γ vV) 252 [(0, va_rf (some this))] [.int y0, va_rf y1] (F_X12_next_L252 k189 this y0 y1) := by
  unfold F_X12_next_L252
  refine ok_wI fl_RX12_144 (Or.inl rfl) (tyX12_ok 39 (by decide)) (by decide) rfl (dd TX12_next_3 7 rfl) ?_
  refine ok_aload_n (dd TX12_next_3 8 rfl) 0 rfl ?_
  refine ok_dup (dd TX12_next_3 9 rfl) (by first | rfl | exact cat_rf _) ?_
  refine ok_gI fl_RX12_126 rfl (dd TX12_next_3 10 rfl) (fun v43 => ?_)
  refine ok_iconst (v := (1 : Int32)) (dd TX12_next_3 11 rfl) (by decide) ?_
  refine ok_iadd (dd TX12_next_3 12 rfl) ?_
  refine ok_wI fl_RX12_126 (Or.inl rfl) (tyX12_ok 37 (by decide)) (by decide) rfl (dd TX12_next_3 13 rfl) ?_
  refine ok_goto (tgt := 189) (dd TX12_next_3 14 rfl) (by decide) ?_
  exact hk189 this
def F_X12_next_L189 : Nat → Nat → M Unit
  | 0 => fun _ => fl
  | n + 1 => fun this => bn (gI 12 37 (some this)) fun v23 => bn (gI 12 40 (some this)) fun v24 => if v24 ≤ v23 then F_X12_next_L268 this else bn (gP 12 0 (some this)) fun v25 => bn (gI 12 37 (some this)) fun v26 => bn (lI 160 v25 v26) fun v27 => bn (F_X12_isDigit v27) fun v28 => if v28 = 0 then F_X12_next_L268 this else bn (gI 12 39 (some this)) fun v29 => if v29 ≤ (999999 : Int32) then bn (gI 12 39 (some this)) fun v30 => bn (gP 12 0 (some this)) fun v31 => bn (gI 12 37 (some this)) fun v32 => bn (lI 160 v31 v32) fun v33 => F_X12_next_L252 (F_X12_next_L189 n) this ((((10 : Int32) * v30) + v33) - (48 : Int32)) (some this) else bn (gI 12 39 (some this)) fun v34 => F_X12_next_L252 (F_X12_next_L189 n) this v34 (some this)
set_option maxRecDepth 100000 in
theorem O_X12_next_L189 (Γ : Gam) (n : Nat) : ∀ (this : Nat), Ok Γ mX12_next 5 (qo Γ vV) 189 [(0, va_rf (some this))] [] (F_X12_next_L189 n this) := by
  induction n with
  | zero => intro this; exact ok_fl
  | succ n ih =>
    intro this
    rw [F_X12_next_L189]
    refine ok_aload_n (dd TX12_next_2 15 rfl) 0 rfl ?_
    refine ok_gI fl_RX12_126 rfl (dd TX12_next_2 16 rfl) (fun v23 => ?_)
    refine ok_aload_n (dd TX12_next_2 17 rfl) 0 rfl ?_
    refine ok_gI fl_RX12_132 rfl (dd TX12_next_2 18 rfl) (fun v24 => ?_)
    refine ok_icmp_ge (tgt := 268) (dd TX12_next_2 19 rfl) (by decide) ?_ ?_
    · exact O_X12_next_L268 Γ this
    · refine ok_aload_n (dd TX12_next_2 20 rfl) 0 rfl ?_
      refine ok_gP fl_RX12_9 rfl (dd TX12_next_2 21 rfl) (fun v25 => ?_)
      refine ok_aload_n (dd TX12_next_2 22 rfl) 0 rfl ?_
      refine ok_gI fl_RX12_126 rfl (dd TX12_next_2 23 rfl) (fun v26 => ?_)
      refine ok_lI (kd := 160) (by decide) rfl (dd TX12_next_2 24 rfl) (fun v27 => ?_)
      refine ok_callSI [.int v27] [] (C_X12_isDigit Γ v27) cy_X12_isDigit ml_RX12_147 sm_X12_isDigit (by decide) (Nat.le_of_ble_eq_true rfl) rfl (dd TX12_next_2 25 rfl) (fun v28 => ?_)
      refine ok_if_eq (tgt := 268) (dd TX12_next_2 26 rfl) (by decide) ?_ ?_
      · exact O_X12_next_L268 Γ this
      · refine ok_aload_n (dd TX12_next_2 27 rfl) 0 rfl ?_
        refine ok_aload_n (dd TX12_next_2 28 rfl) 0 rfl ?_
        refine ok_gI fl_RX12_144 rfl (dd TX12_next_2 29 rfl) (fun v29 => ?_)
        refine ok_ldc (v := (999999 : Int32)) (dd TX12_next_2 30 rfl) ct_RX12_150 ?_
        refine ok_icmp_le (tgt := 232) (dd TX12_next_2 31 rfl) (by decide) ?_ ?_
        · refine ok_bipush (v := (10 : Int32)) (dd TX12_next_2 35 rfl) (by decide) ?_
          refine ok_aload_n (dd TX12_next_2 36 rfl) 0 rfl ?_
          refine ok_gI fl_RX12_144 rfl (dd TX12_next_2 37 rfl) (fun v30 => ?_)
          refine ok_imul (dd TX12_next_2 38 rfl) ?_
          refine ok_aload_n (dd TX12_next_2 39 rfl) 0 rfl ?_
          refine ok_gP fl_RX12_9 rfl (dd TX12_next_3 0 rfl) (fun v31 => ?_)
          refine ok_aload_n (dd TX12_next_3 1 rfl) 0 rfl ?_
          refine ok_gI fl_RX12_126 rfl (dd TX12_next_3 2 rfl) (fun v32 => ?_)
          refine ok_lI (kd := 160) (by decide) rfl (dd TX12_next_3 3 rfl) (fun v33 => ?_)
          refine ok_iadd (dd TX12_next_3 4 rfl) ?_
          refine ok_bipush (v := (48 : Int32)) (dd TX12_next_3 5 rfl) (by decide) ?_
          refine ok_isub (dd TX12_next_3 6 rfl) ?_
          exact O_X12_next_L252 Γ (F_X12_next_L189 n) ih this ((((10 : Int32) * v30) + v33) - (48 : Int32)) (some this)
        · refine ok_aload_n (dd TX12_next_2 32 rfl) 0 rfl ?_
          refine ok_gI fl_RX12_144 rfl (dd TX12_next_2 33 rfl) (fun v34 => ?_)
          refine ok_goto (tgt := 252) (dd TX12_next_2 34 rfl) (by decide) ?_
          exact O_X12_next_L252 Γ (F_X12_next_L189 n) ih this v34 (some this)
def F_X12_next_L171 (y0 : Int32) (y1 : Option Nat) : M Unit := bn (wI 12 38 y1 y0) fun _ => rt ()
set_option maxRecDepth 100000 in
theorem O_X12_next_L171 (Γ : Gam) (y0 : Int32) (y1 : Option Nat) : Ok Γ mX12_next 5 (qo Γ vV) 171 [] [.int y0, va_rf y1] (F_X12_next_L171 y0 y1) := by
  unfold F_X12_next_L171
  refine ok_wI fl_RX12_134 (Or.inl rfl) (tyX12_ok 38 (by decide)) (by decide) rfl (dd TX12_next_2 7 rfl) ?_
  refine ok_goto (tgt := 322) (dd TX12_next_2 8 rfl) (by decide) ?_
  exact ok_return (dd TX12_next_4 3 rfl) rfl
def F_X12_next_L141 (this : Nat) : M Unit := bn (gI 12 36 (some this)) fun v44 => bn (gI 12 37 (some this)) fun v45 => bn (pRc 12 (some this)) fun b46 => bn (F_X12_wordAt b46 v44 v45) fun v47 => bn (wI 12 39 (some this) v47) fun _ => bn (gI 12 39 (some this)) fun v48 => if ¬ v48 = (-1 : Int32) then F_X12_next_L171 (2 : Int32) (some this) else F_X12_next_L171 (4 : Int32) (some this)
set_option maxRecDepth 100000 in
theorem O_X12_next_L141 (Γ : Gam) (this : Nat) : Ok Γ mX12_next 5 (qo Γ vV) 141 [(0, va_rf (some this))] [] (F_X12_next_L141 this) := by
  unfold F_X12_next_L141
  refine ok_aload_n (dd TX12_next_1 31 rfl) 0 rfl ?_
  refine ok_aload_n (dd TX12_next_1 32 rfl) 0 rfl ?_
  refine ok_aload_n (dd TX12_next_1 33 rfl) 0 rfl ?_
  refine ok_gI fl_RX12_129 rfl (dd TX12_next_1 34 rfl) (fun v44 => ?_)
  refine ok_aload_n (dd TX12_next_1 35 rfl) 0 rfl ?_
  refine ok_gI fl_RX12_126 rfl (dd TX12_next_1 36 rfl) (fun v45 => ?_)
  refine ok_callVI (cn := 12) [.int v44, .int v45] [va_rf (some this)] (fun b46 => C_X12_wordAt Γ b46 v44 v45) rfl cy_X12_wordAt ml_RX12_141 im_X12_wordAt se_X12_wordAt (by decide) (Nat.le_of_ble_eq_true rfl) rfl (dd TX12_next_1 37 rfl) (fun v47 => ?_)
  refine ok_wI fl_RX12_144 (Or.inl rfl) (tyX12_ok 39 (by decide)) (by decide) rfl (dd TX12_next_1 38 rfl) ?_
  refine ok_aload_n (dd TX12_next_1 39 rfl) 0 rfl ?_
  refine ok_aload_n (dd TX12_next_2 0 rfl) 0 rfl ?_
  refine ok_gI fl_RX12_144 rfl (dd TX12_next_2 1 rfl) (fun v48 => ?_)
  refine ok_iconst (v := (-1 : Int32)) (dd TX12_next_2 2 rfl) (by decide) ?_
  refine ok_icmp_ne (tgt := 170) (dd TX12_next_2 3 rfl) (by decide) ?_ ?_
  · refine ok_iconst (v := (2 : Int32)) (dd TX12_next_2 6 rfl) (by decide) ?_
    refine ok_sub [] rfl ?_
    exact O_X12_next_L171 Γ (2 : Int32) (some this)
  · refine ok_iconst (v := (4 : Int32)) (dd TX12_next_2 4 rfl) (by decide) ?_
    refine ok_goto (tgt := 171) (dd TX12_next_2 5 rfl) (by decide) ?_
    refine ok_sub [] rfl ?_
    exact O_X12_next_L171 Γ (4 : Int32) (some this)
def F_X12_next_L102 : Nat → Nat → M Unit
  | 0 => fun _ => fl
  | n + 1 => fun this => bn (gI 12 37 (some this)) fun v35 => bn (gI 12 40 (some this)) fun v36 => if v36 ≤ v35 then F_X12_next_L141 this else bn (gP 12 0 (some this)) fun v37 => bn (gI 12 37 (some this)) fun v38 => bn (lI 160 v37 v38) fun v39 => bn (F_X12_isLetter v39) fun v40 => if v40 = 0 then F_X12_next_L141 this else bn (gI 12 37 (some this)) fun v41 => bn (wI 12 37 (some this) (v41 + (1 : Int32))) fun _ => F_X12_next_L102 n this
set_option maxRecDepth 100000 in
theorem O_X12_next_L102 (Γ : Gam) (n : Nat) : ∀ (this : Nat), Ok Γ mX12_next 5 (qo Γ vV) 102 [(0, va_rf (some this))] [] (F_X12_next_L102 n this) := by
  induction n with
  | zero => intro this; exact ok_fl
  | succ n ih =>
    intro this
    rw [F_X12_next_L102]
    refine ok_aload_n (dd TX12_next_1 12 rfl) 0 rfl ?_
    refine ok_gI fl_RX12_126 rfl (dd TX12_next_1 13 rfl) (fun v35 => ?_)
    refine ok_aload_n (dd TX12_next_1 14 rfl) 0 rfl ?_
    refine ok_gI fl_RX12_132 rfl (dd TX12_next_1 15 rfl) (fun v36 => ?_)
    refine ok_icmp_ge (tgt := 141) (dd TX12_next_1 16 rfl) (by decide) ?_ ?_
    · exact O_X12_next_L141 Γ this
    · refine ok_aload_n (dd TX12_next_1 17 rfl) 0 rfl ?_
      refine ok_gP fl_RX12_9 rfl (dd TX12_next_1 18 rfl) (fun v37 => ?_)
      refine ok_aload_n (dd TX12_next_1 19 rfl) 0 rfl ?_
      refine ok_gI fl_RX12_126 rfl (dd TX12_next_1 20 rfl) (fun v38 => ?_)
      refine ok_lI (kd := 160) (by decide) rfl (dd TX12_next_1 21 rfl) (fun v39 => ?_)
      refine ok_callSI [.int v39] [] (C_X12_isLetter Γ v39) cy_X12_isLetter ml_RX12_137 sm_X12_isLetter (by decide) (Nat.le_of_ble_eq_true rfl) rfl (dd TX12_next_1 22 rfl) (fun v40 => ?_)
      refine ok_if_eq (tgt := 141) (dd TX12_next_1 23 rfl) (by decide) ?_ ?_
      · exact O_X12_next_L141 Γ this
      · refine ok_aload_n (dd TX12_next_1 24 rfl) 0 rfl ?_
        refine ok_dup (dd TX12_next_1 25 rfl) (by first | rfl | exact cat_rf _) ?_
        refine ok_gI fl_RX12_126 rfl (dd TX12_next_1 26 rfl) (fun v41 => ?_)
        refine ok_iconst (v := (1 : Int32)) (dd TX12_next_1 27 rfl) (by decide) ?_
        refine ok_iadd (dd TX12_next_1 28 rfl) ?_
        refine ok_wI fl_RX12_126 (Or.inl rfl) (tyX12_ok 37 (by decide)) (by decide) rfl (dd TX12_next_1 29 rfl) ?_
        refine ok_goto (tgt := 102) (dd TX12_next_1 30 rfl) (by decide) ?_
        exact ih this
def F_X12_next_L60 (this : Nat) : M Unit := bn (gI 12 36 (some this)) fun v10 => bn (wI 12 37 (some this) v10) fun _ => bn (gI 12 36 (some this)) fun v11 => bn (gI 12 40 (some this)) fun v12 => if ¬ v11 = v12 then bn (gP 12 0 (some this)) fun v13 => bn (gI 12 36 (some this)) fun v14 => bn (lI 160 v13 v14) fun v15 => bn (F_X12_isLetter v15) fun v16 => if v16 = 0 then bn (F_X12_isDigit v15) fun v17 => if v17 = 0 then bn (gI 12 37 (some this)) fun v18 => bn (wI 12 37 (some this) (v18 + (1 : Int32))) fun _ => bn (wI 12 39 (some this) v15) fun _ => bn (cK 2) fun r19 => bn (kRc r19) fun b20 => bn (F_J0_indexOf_0f7a4 b20 v15) fun v21 => if v21 < 0 then bn (wI 12 38 (some this) (4 : Int32)) fun _ => rt () else bn (wI 12 38 (some this) (3 : Int32)) fun _ => rt () else bn (wI 12 39 (some this) (0 : Int32)) fun _ => F_X12_next_L189 FU this else F_X12_next_L102 FU this else bn (wI 12 38 (some this) (0 : Int32)) fun _ => rt ()
set_option maxRecDepth 100000 in
theorem O_X12_next_L60 (Γ : Gam) (this : Nat) : Ok Γ mX12_next 5 (qo Γ vV) 60 [(0, va_rf (some this))] [] (F_X12_next_L60 this) := by
  unfold F_X12_next_L60
  refine ok_aload_n (dd TX12_next_0 30 rfl) 0 rfl ?_
  refine ok_aload_n (dd TX12_next_0 31 rfl) 0 rfl ?_
  refine ok_gI fl_RX12_129 rfl (dd TX12_next_0 32 rfl) (fun v10 => ?_)
  refine ok_wI fl_RX12_126 (Or.inl rfl) (tyX12_ok 37 (by decide)) (by decide) rfl (dd TX12_next_0 33 rfl) ?_
  refine ok_aload_n (dd TX12_next_0 34 rfl) 0 rfl ?_
  refine ok_gI fl_RX12_129 rfl (dd TX12_next_0 35 rfl) (fun v11 => ?_)
  refine ok_aload_n (dd TX12_next_0 36 rfl) 0 rfl ?_
  refine ok_gI fl_RX12_132 rfl (dd TX12_next_0 37 rfl) (fun v12 => ?_)
  refine ok_icmp_ne (tgt := 85) (dd TX12_next_0 38 rfl) (by decide) ?_ ?_
  · refine ok_aload_n (dd TX12_next_1 3 rfl) 0 rfl ?_
    refine ok_gP fl_RX12_9 rfl (dd TX12_next_1 4 rfl) (fun v13 => ?_)
    refine ok_aload_n (dd TX12_next_1 5 rfl) 0 rfl ?_
    refine ok_gI fl_RX12_129 rfl (dd TX12_next_1 6 rfl) (fun v14 => ?_)
    refine ok_lI (kd := 160) (by decide) rfl (dd TX12_next_1 7 rfl) (fun v15 => ?_)
    refine ok_istore_n (lv' := [(1, .int v15), (0, va_rf (some this))]) (dd TX12_next_1 8 rfl) (by decide) (by first | rfl | (simp only [List.filter, cat_rf]; rfl)) ?_
    refine ok_iload_n (dd TX12_next_1 9 rfl) 0 rfl ?_
    refine ok_callSI [.int v15] [] (C_X12_isLetter Γ v15) cy_X12_isLetter ml_RX12_137 sm_X12_isLetter (by decide) (Nat.le_of_ble_eq_true rfl) rfl (dd TX12_next_1 10 rfl) (fun v16 => ?_)
    refine ok_if_eq (tgt := 177) (dd TX12_next_1 11 rfl) (by decide) ?_ ?_
    · refine ok_iload_n (dd TX12_next_2 9 rfl) 0 rfl ?_
      refine ok_callSI [.int v15] [] (C_X12_isDigit Γ v15) cy_X12_isDigit ml_RX12_147 sm_X12_isDigit (by decide) (Nat.le_of_ble_eq_true rfl) rfl (dd TX12_next_2 10 rfl) (fun v17 => ?_)
      refine ok_if_eq (tgt := 289) (dd TX12_next_2 11 rfl) (by decide) ?_ ?_
      · refine ok_aload_n (dd TX12_next_3 25 rfl) 1 rfl ?_
        refine ok_dup (dd TX12_next_3 26 rfl) (by first | rfl | exact cat_rf _) ?_
        refine ok_gI fl_RX12_126 rfl (dd TX12_next_3 27 rfl) (fun v18 => ?_)
        refine ok_iconst (v := (1 : Int32)) (dd TX12_next_3 28 rfl) (by decide) ?_
        refine ok_iadd (dd TX12_next_3 29 rfl) ?_
        refine ok_wI fl_RX12_126 (Or.inl rfl) (tyX12_ok 37 (by decide)) (by decide) rfl (dd TX12_next_3 30 rfl) ?_
        refine ok_aload_n (dd TX12_next_3 31 rfl) 1 rfl ?_
        refine ok_iload_n (dd TX12_next_3 32 rfl) 0 rfl ?_
        refine ok_wI fl_RX12_144 (Or.inl rfl) (tyX12_ok 39 (by decide)) (by decide) rfl (dd TX12_next_3 33 rfl) ?_
        refine ok_aload_n (dd TX12_next_3 34 rfl) 1 rfl ?_
        refine ok_ldcS3 rfl (dd TX12_next_3 35 rfl) (fun r19 => ?_)
        refine ok_iload_n (dd TX12_next_3 36 rfl) 0 rfl ?_
        refine ok_callK [.int v15] [va_rf (some this)] (fun b20 => C_J0_indexOf_0f7a4 Γ b20 v15) cy_J0_indexOf_0f7a4 ml_RX12_153 im_J0_indexOf_0f7a4 se_J0_indexOf_0f7a4 (by decide) (Nat.le_of_ble_eq_true rfl) rfl (dd TX12_next_3 37 rfl) (fun v21 => ?_)
        refine ok_if_lt (tgt := 318) (dd TX12_next_3 38 rfl) (by decide) ?_ ?_
        · refine ok_iconst (v := (4 : Int32)) (dd TX12_next_4 1 rfl) (by decide) ?_
          refine ok_wI fl_RX12_134 (Or.inl rfl) (tyX12_ok 38 (by decide)) (by decide) rfl (dd TX12_next_4 2 rfl) ?_
          exact ok_return (dd TX12_next_4 3 rfl) rfl
        · refine ok_iconst (v := (3 : Int32)) (dd TX12_next_3 39 rfl) (by decide) ?_
          refine ok_goto (tgt := 319) (dd TX12_next_4 0 rfl) (by decide) ?_
          refine ok_wI fl_RX12_134 (Or.inl rfl) (tyX12_ok 38 (by decide)) (by decide) rfl (dd TX12_next_4 2 rfl) ?_
          exact ok_return (dd TX12_next_4 3 rfl) rfl
      · refine ok_aload_n (dd TX12_next_2 12 rfl) 1 rfl ?_
        refine ok_iconst (v := (0 : Int32)) (dd TX12_next_2 13 rfl) (by decide) ?_
        refine ok_wI fl_RX12_144 (Or.inl rfl) (tyX12_ok 39 (by decide)) (by decide) rfl (dd TX12_next_2 14 rfl) ?_
        refine ok_sub [1] rfl ?_
        exact O_X12_next_L189 Γ FU this
    · refine ok_sub [1] rfl ?_
      exact O_X12_next_L102 Γ FU this
  · refine ok_aload_n (dd TX12_next_0 39 rfl) 0 rfl ?_
    refine ok_iconst (v := (0 : Int32)) (dd TX12_next_1 0 rfl) (by decide) ?_
    refine ok_wI fl_RX12_134 (Or.inl rfl) (tyX12_ok 38 (by decide)) (by decide) rfl (dd TX12_next_1 1 rfl) ?_
    exact ok_return (dd TX12_next_1 2 rfl) rfl
def F_X12_next_L47 (k8 : Nat → M Unit) (this : Nat) : M Unit := bn (gI 12 36 (some this)) fun v22 => bn (wI 12 36 (some this) (v22 + (1 : Int32))) fun _ => k8 this
set_option maxRecDepth 100000 in
theorem O_X12_next_L47 (Γ : Gam) (k8 : Nat → M Unit) (hk8 : ∀ (z0 : Nat), Ok Γ mX12_next 5 (qo Γ vV) 8 [(0, va_rf (some z0))] [] (k8 z0)) (this : Nat) : Ok Γ mX12_next 5 (qo Γ vV) 47 [(0, va_rf (some this))] [] (F_X12_next_L47 k8 this) := by
  unfold F_X12_next_L47
  refine ok_aload_n (dd TX12_next_0 23 rfl) 0 rfl ?_
  refine ok_dup (dd TX12_next_0 24 rfl) (by first | rfl | exact cat_rf _) ?_
  refine ok_gI fl_RX12_129 rfl (dd TX12_next_0 25 rfl) (fun v22 => ?_)
  refine ok_iconst (v := (1 : Int32)) (dd TX12_next_0 26 rfl) (by decide) ?_
  refine ok_iadd (dd TX12_next_0 27 rfl) ?_
  refine ok_wI fl_RX12_129 (Or.inl rfl) (tyX12_ok 36 (by decide)) (by decide) rfl (dd TX12_next_0 28 rfl) ?_
  refine ok_goto (tgt := 8) (dd TX12_next_0 29 rfl) (by decide) ?_
  exact hk8 this
def F_X12_next_L8 : Nat → Nat → M Unit
  | 0 => fun _ => fl
  | n + 1 => fun this => bn (gI 12 36 (some this)) fun v2 => bn (gI 12 40 (some this)) fun v3 => if v3 ≤ v2 then F_X12_next_L60 this else bn (gP 12 0 (some this)) fun v4 => bn (gI 12 36 (some this)) fun v5 => bn (lI 160 v4 v5) fun v6 => if v6 = (32 : Int32) then F_X12_next_L47 (F_X12_next_L8 n) this else bn (gP 12 0 (some this)) fun v7 => bn (gI 12 36 (some this)) fun v8 => bn (lI 160 v7 v8) fun v9 => if ¬ v9 = (10 : Int32) then F_X12_next_L60 this else F_X12_next_L47 (F_X12_next_L8 n) this
set_option maxRecDepth 100000 in
theorem O_X12_next_L8 (Γ : Gam) (n : Nat) : ∀ (this : Nat), Ok Γ mX12_next 5 (qo Γ vV) 8 [(0, va_rf (some this))] [] (F_X12_next_L8 n this) := by
  induction n with
  | zero => intro this; exact ok_fl
  | succ n ih =>
    intro this
    rw [F_X12_next_L8]
    refine ok_aload_n (dd TX12_next_0 4 rfl) 0 rfl ?_
    refine ok_gI fl_RX12_129 rfl (dd TX12_next_0 5 rfl) (fun v2 => ?_)
    refine ok_aload_n (dd TX12_next_0 6 rfl) 0 rfl ?_
    refine ok_gI fl_RX12_132 rfl (dd TX12_next_0 7 rfl) (fun v3 => ?_)
    refine ok_icmp_ge (tgt := 60) (dd TX12_next_0 8 rfl) (by decide) ?_ ?_
    · exact O_X12_next_L60 Γ this
    · refine ok_aload_n (dd TX12_next_0 9 rfl) 0 rfl ?_
      refine ok_gP fl_RX12_9 rfl (dd TX12_next_0 10 rfl) (fun v4 => ?_)
      refine ok_aload_n (dd TX12_next_0 11 rfl) 0 rfl ?_
      refine ok_gI fl_RX12_129 rfl (dd TX12_next_0 12 rfl) (fun v5 => ?_)
      refine ok_lI (kd := 160) (by decide) rfl (dd TX12_next_0 13 rfl) (fun v6 => ?_)
      refine ok_bipush (v := (32 : Int32)) (dd TX12_next_0 14 rfl) (by decide) ?_
      refine ok_icmp_eq (tgt := 47) (dd TX12_next_0 15 rfl) (by decide) ?_ ?_
      · exact O_X12_next_L47 Γ (F_X12_next_L8 n) ih this
      · refine ok_aload_n (dd TX12_next_0 16 rfl) 0 rfl ?_
        refine ok_gP fl_RX12_9 rfl (dd TX12_next_0 17 rfl) (fun v7 => ?_)
        refine ok_aload_n (dd TX12_next_0 18 rfl) 0 rfl ?_
        refine ok_gI fl_RX12_129 rfl (dd TX12_next_0 19 rfl) (fun v8 => ?_)
        refine ok_lI (kd := 160) (by decide) rfl (dd TX12_next_0 20 rfl) (fun v9 => ?_)
        refine ok_bipush (v := (10 : Int32)) (dd TX12_next_0 21 rfl) (by decide) ?_
        refine ok_icmp_ne (tgt := 60) (dd TX12_next_0 22 rfl) (by decide) ?_ ?_
        · exact O_X12_next_L60 Γ this
        · exact O_X12_next_L47 Γ (F_X12_next_L8 n) ih this
def F_X12_next (this : Nat) : M Unit := bn (gI 12 37 (some this)) fun v1 => bn (wI 12 36 (some this) v1) fun _ => F_X12_next_L8 FU this
set_option maxRecDepth 100000 in
theorem C_X12_next (Γ : Gam) (this : Nat) : Ct Γ mX12_next 5 vV [va_rf (some this)] (F_X12_next this) := by
  refine ct_in (lv := [(0, va_rf (some this))]) (by decide) (by first | rfl | (simp only [lv_args, cat_rf]; rfl)) (by first | exact Nat.le_of_ble_eq_true rfl | (rw [lg_len]; simp only [List.map_cons, List.map_nil, cat_rf]; exact Nat.le_of_ble_eq_true rfl)) ?_
  unfold F_X12_next
  refine ok_aload_n (dd TX12_next_0 0 rfl) 0 rfl ?_
  refine ok_aload_n (dd TX12_next_0 1 rfl) 0 rfl ?_
  refine ok_gI fl_RX12_126 rfl (dd TX12_next_0 2 rfl) (fun v1 => ?_)
  refine ok_wI fl_RX12_129 (Or.inl rfl) (tyX12_ok 36 (by decide)) (by decide) rfl (dd TX12_next_0 3 rfl) ?_
  exact O_X12_next_L8 Γ FU this
def F_X12_fails_L21 (this : Nat) (y0 : Int32) (y1 : Option Nat) : M Int32 := bn (wI 12 2 y1 y0) fun _ => bn (gI 12 36 (some this)) fun v3 => bn (wI 12 3 (some this) v3) fun _ => rz (0 : Int32)
set_option maxRecDepth 100000 in
theorem O_X12_fails_L21 (Γ : Gam) (this : Nat) (y0 : Int32) (y1 : Option Nat) : Ok Γ mX12_fails 0 (qo Γ vI) 21 [(0, va_rf (some this))] [.int y0, va_rf y1] (F_X12_fails_L21 this y0 y1) := by
  unfold F_X12_fails_L21
  refine ok_wI fl_RX12_156 (Or.inl rfl) (tyX12_ok 2 (by decide)) (by decide) rfl (dd TX12_fails_0 11 rfl) ?_
  refine ok_aload_n (dd TX12_fails_0 12 rfl) 0 rfl ?_
  refine ok_aload_n (dd TX12_fails_0 13 rfl) 0 rfl ?_
  refine ok_gI fl_RX12_129 rfl (dd TX12_fails_0 14 rfl) (fun v3 => ?_)
  refine ok_wI fl_RX12_159 (Or.inl rfl) (tyX12_ok 3 (by decide)) (by decide) rfl (dd TX12_fails_0 15 rfl) ?_
  refine ok_iconst (v := (0 : Int32)) (dd TX12_fails_0 16 rfl) (by decide) ?_
  exact ok_zreturn (dd TX12_fails_0 17 rfl) rfl
def F_X12_fails (this : Nat) (p0 : Int32) : M Int32 := bn (gI 12 2 (some this)) fun v1 => if ¬ v1 = 0 then rz (0 : Int32) else bn (gI 12 38 (some this)) fun v2 => if ¬ v2 = (4 : Int32) then F_X12_fails_L21 this p0 (some this) else F_X12_fails_L21 this (1 : Int32) (some this)
set_option maxRecDepth 100000 in
theorem C_X12_fails (Γ : Gam) (this : Nat) (p0 : Int32) : Ct Γ mX12_fails 0 vI [va_rf (some this), .int p0] (F_X12_fails this p0) := by
  refine ct_in (lv := [(0, va_rf (some this)), (1, .int p0)]) (by decide) (by first | rfl | (simp only [lv_args, cat_rf]; rfl)) (by first | exact Nat.le_of_ble_eq_true rfl | (rw [lg_len]; simp only [List.map_cons, List.map_nil, cat_rf]; exact Nat.le_of_ble_eq_true rfl)) ?_
  unfold F_X12_fails
  refine ok_aload_n (dd TX12_fails_0 0 rfl) 0 rfl ?_
  refine ok_gI fl_RX12_156 rfl (dd TX12_fails_0 1 rfl) (fun v1 => ?_)
  refine ok_if_ne (tgt := 32) (dd TX12_fails_0 2 rfl) (by decide) ?_ ?_
  · refine ok_iconst (v := (0 : Int32)) (dd TX12_fails_0 16 rfl) (by decide) ?_
    exact ok_zreturn (dd TX12_fails_0 17 rfl) rfl
  · refine ok_aload_n (dd TX12_fails_0 3 rfl) 0 rfl ?_
    refine ok_aload_n (dd TX12_fails_0 4 rfl) 0 rfl ?_
    refine ok_gI fl_RX12_134 rfl (dd TX12_fails_0 5 rfl) (fun v2 => ?_)
    refine ok_iconst (v := (4 : Int32)) (dd TX12_fails_0 6 rfl) (by decide) ?_
    refine ok_icmp_ne (tgt := 20) (dd TX12_fails_0 7 rfl) (by decide) ?_ ?_
    · refine ok_iload_n (dd TX12_fails_0 10 rfl) 1 rfl ?_
      refine ok_sub [0] rfl ?_
      exact O_X12_fails_L21 Γ this p0 (some this)
    · refine ok_iconst (v := (1 : Int32)) (dd TX12_fails_0 8 rfl) (by decide) ?_
      refine ok_goto (tgt := 21) (dd TX12_fails_0 9 rfl) (by decide) ?_
      refine ok_sub [0] rfl ?_
      exact O_X12_fails_L21 Γ this (1 : Int32) (some this)
def F_X12_isSign (this : Nat) (p0 : Int32) : M Int32 := bn (gI 12 38 (some this)) fun v1 => if ¬ v1 = (3 : Int32) then rz (0 : Int32) else bn (gI 12 39 (some this)) fun v2 => if ¬ v2 = p0 then rz (0 : Int32) else rz (1 : Int32)
set_option maxRecDepth 100000 in
theorem C_X12_isSign (Γ : Gam) (this : Nat) (p0 : Int32) : Ct Γ mX12_isSign 0 vI [va_rf (some this), .int p0] (F_X12_isSign this p0) := by
  refine ct_in (lv := [(0, va_rf (some this)), (1, .int p0)]) (by decide) (by first | rfl | (simp only [lv_args, cat_rf]; rfl)) (by first | exact Nat.le_of_ble_eq_true rfl | (rw [lg_len]; simp only [List.map_cons, List.map_nil, cat_rf]; exact Nat.le_of_ble_eq_true rfl)) ?_
  unfold F_X12_isSign
  refine ok_aload_n (dd TX12_isSign_0 0 rfl) 0 rfl ?_
  refine ok_gI fl_RX12_134 rfl (dd TX12_isSign_0 1 rfl) (fun v1 => ?_)
  refine ok_iconst (v := (3 : Int32)) (dd TX12_isSign_0 2 rfl) (by decide) ?_
  refine ok_icmp_ne (tgt := 20) (dd TX12_isSign_0 3 rfl) (by decide) ?_ ?_
  · refine ok_iconst (v := (0 : Int32)) (dd TX12_isSign_0 10 rfl) (by decide) ?_
    exact ok_zreturn (dd TX12_isSign_0 11 rfl) rfl
  · refine ok_aload_n (dd TX12_isSign_0 4 rfl) 0 rfl ?_
    refine ok_gI fl_RX12_144 rfl (dd TX12_isSign_0 5 rfl) (fun v2 => ?_)
    refine ok_iload_n (dd TX12_isSign_0 6 rfl) 1 rfl ?_
    refine ok_icmp_ne (tgt := 20) (dd TX12_isSign_0 7 rfl) (by decide) ?_ ?_
    · refine ok_iconst (v := (0 : Int32)) (dd TX12_isSign_0 10 rfl) (by decide) ?_
      exact ok_zreturn (dd TX12_isSign_0 11 rfl) rfl
    · refine ok_iconst (v := (1 : Int32)) (dd TX12_isSign_0 8 rfl) (by decide) ?_
      refine ok_goto (tgt := 21) (dd TX12_isSign_0 9 rfl) (by decide) ?_
      exact ok_zreturn (dd TX12_isSign_0 11 rfl) rfl
def F_X12_take (this : Nat) : M Int32 := bn (gI 12 42 (some this)) fun v1 => if ¬ v1 = (60 : Int32) then bn (gP 12 7 (some this)) fun v2 => bn (gI 12 41 (some this)) fun v3 => bn (gI 12 42 (some this)) fun v4 => bn (gI 12 38 (some this)) fun v5 => bn (stI 192 v2 (((60 : Int32) * v3) + v4) v5) fun _ => bn (gP 12 8 (some this)) fun v6 => bn (gI 12 41 (some this)) fun v7 => bn (gI 12 42 (some this)) fun v8 => bn (gI 12 39 (some this)) fun v9 => bn (stI 200 v6 (((60 : Int32) * v7) + v8) v9) fun _ => bn (gI 12 42 (some this)) fun v10 => bn (wI 12 42 (some this) (v10 + (1 : Int32))) fun _ => bn (pRc 12 (some this)) fun b11 => bn (F_X12_next b11) fun _ => rz (1 : Int32) else bn (pRc 12 (some this)) fun b12 => bn (F_X12_fails b12 (4 : Int32)) fun v13 => rz v13
set_option maxRecDepth 100000 in
theorem C_X12_take (Γ : Gam) (this : Nat) : Ct Γ mX12_take 6 vI [va_rf (some this)] (F_X12_take this) := by
  refine ct_in (lv := [(0, va_rf (some this))]) (by decide) (by first | rfl | (simp only [lv_args, cat_rf]; rfl)) (by first | exact Nat.le_of_ble_eq_true rfl | (rw [lg_len]; simp only [List.map_cons, List.map_nil, cat_rf]; exact Nat.le_of_ble_eq_true rfl)) ?_
  unfold F_X12_take
  refine ok_aload_n (dd TX12_take_0 0 rfl) 0 rfl ?_
  refine ok_gI fl_RX12_162 rfl (dd TX12_take_0 1 rfl) (fun v1 => ?_)
  refine ok_bipush (v := (60 : Int32)) (dd TX12_take_0 2 rfl) (by decide) ?_
  refine ok_icmp_ne (tgt := 15) (dd TX12_take_0 3 rfl) (by decide) ?_ ?_
  · refine ok_aload_n (dd TX12_take_0 8 rfl) 0 rfl ?_
    refine ok_gP fl_RX12_22 rfl (dd TX12_take_0 9 rfl) (fun v2 => ?_)
    refine ok_bipush (v := (60 : Int32)) (dd TX12_take_0 10 rfl) (by decide) ?_
    refine ok_aload_n (dd TX12_take_0 11 rfl) 0 rfl ?_
    refine ok_gI fl_RX12_168 rfl (dd TX12_take_0 12 rfl) (fun v3 => ?_)
    refine ok_imul (dd TX12_take_0 13 rfl) ?_
    refine ok_aload_n (dd TX12_take_0 14 rfl) 0 rfl ?_
    refine ok_gI fl_RX12_162 rfl (dd TX12_take_0 15 rfl) (fun v4 => ?_)
    refine ok_iadd (dd TX12_take_0 16 rfl) ?_
    refine ok_aload_n (dd TX12_take_0 17 rfl) 0 rfl ?_
    refine ok_gI fl_RX12_134 rfl (dd TX12_take_0 18 rfl) (fun v5 => ?_)
    refine ok_stI (kd := 192) (by decide) rfl (dd TX12_take_0 19 rfl) ?_
    refine ok_aload_n (dd TX12_take_0 20 rfl) 0 rfl ?_
    refine ok_gP fl_RX12_25 rfl (dd TX12_take_0 21 rfl) (fun v6 => ?_)
    refine ok_bipush (v := (60 : Int32)) (dd TX12_take_0 22 rfl) (by decide) ?_
    refine ok_aload_n (dd TX12_take_0 23 rfl) 0 rfl ?_
    refine ok_gI fl_RX12_168 rfl (dd TX12_take_0 24 rfl) (fun v7 => ?_)
    refine ok_imul (dd TX12_take_0 25 rfl) ?_
    refine ok_aload_n (dd TX12_take_0 26 rfl) 0 rfl ?_
    refine ok_gI fl_RX12_162 rfl (dd TX12_take_0 27 rfl) (fun v8 => ?_)
    refine ok_iadd (dd TX12_take_0 28 rfl) ?_
    refine ok_aload_n (dd TX12_take_0 29 rfl) 0 rfl ?_
    refine ok_gI fl_RX12_144 rfl (dd TX12_take_0 30 rfl) (fun v9 => ?_)
    refine ok_stI (kd := 200) (by decide) rfl (dd TX12_take_0 31 rfl) ?_
    refine ok_aload_n (dd TX12_take_0 32 rfl) 0 rfl ?_
    refine ok_dup (dd TX12_take_0 33 rfl) (by first | rfl | exact cat_rf _) ?_
    refine ok_gI fl_RX12_162 rfl (dd TX12_take_0 34 rfl) (fun v10 => ?_)
    refine ok_iconst (v := (1 : Int32)) (dd TX12_take_0 35 rfl) (by decide) ?_
    refine ok_iadd (dd TX12_take_0 36 rfl) ?_
    refine ok_wI fl_RX12_162 (Or.inl rfl) (tyX12_ok 42 (by decide)) (by decide) rfl (dd TX12_take_0 37 rfl) ?_
    refine ok_aload_n (dd TX12_take_0 38 rfl) 0 rfl ?_
    refine ok_callVV (cn := 12) [] [] (fun b11 => C_X12_next Γ b11) rfl cy_X12_next ml_RX12_171 im_X12_next se_X12_next (by decide) (Nat.le_of_ble_eq_true rfl) rfl (dd TX12_take_0 39 rfl) ?_
    refine ok_iconst (v := (1 : Int32)) (dd TX12_take_1 0 rfl) (by decide) ?_
    exact ok_zreturn (dd TX12_take_1 1 rfl) rfl
  · refine ok_aload_n (dd TX12_take_0 4 rfl) 0 rfl ?_
    refine ok_iconst (v := (4 : Int32)) (dd TX12_take_0 5 rfl) (by decide) ?_
    refine ok_callVI (cn := 12) [.int (4 : Int32)] [] (fun b12 => C_X12_fails Γ b12 (4 : Int32)) rfl cy_X12_fails ml_RX12_165 im_X12_fails se_X12_fails (by decide) (Nat.le_of_ble_eq_true rfl) rfl (dd TX12_take_0 6 rfl) (fun v13 => ?_)
    exact ok_zreturn (dd TX12_take_0 7 rfl) rfl
def F_X12_takeSign (this : Nat) (p0 : Int32) : M Int32 := bn (pRc 12 (some this)) fun b1 => bn (F_X12_isSign b1 p0) fun v2 => if v2 = 0 then bn (pRc 12 (some this)) fun b3 => bn (F_X12_fails b3 (2 : Int32)) fun v4 => rz v4 else bn (pRc 12 (some this)) fun b5 => bn (F_X12_take b5) fun v6 => rz v6
set_option maxRecDepth 100000 in
theorem C_X12_takeSign (Γ : Gam) (this : Nat) (p0 : Int32) : Ct Γ mX12_takeSign 7 vI [va_rf (some this), .int p0] (F_X12_takeSign this p0) := by
  refine ct_in (lv := [(0, va_rf (some this)), (1, .int p0)]) (by decide) (by first | rfl | (simp only [lv_args, cat_rf]; rfl)) (by first | exact Nat.le_of_ble_eq_true rfl | (rw [lg_len]; simp only [List.map_cons, List.map_nil, cat_rf]; exact Nat.le_of_ble_eq_true rfl)) ?_
  unfold F_X12_takeSign
  refine ok_aload_n (dd TX12_takeSign_0 0 rfl) 0 rfl ?_
  refine ok_iload_n (dd TX12_takeSign_0 1 rfl) 1 rfl ?_
  refine ok_callVI (cn := 12) [.int p0] [] (fun b1 => C_X12_isSign Γ b1 p0) rfl cy_X12_isSign ml_RX12_174 im_X12_isSign se_X12_isSign (by decide) (Nat.le_of_ble_eq_true rfl) rfl (dd TX12_takeSign_0 2 rfl) (fun v2 => ?_)
  refine ok_if_eq (tgt := 15) (dd TX12_takeSign_0 3 rfl) (by decide) ?_ ?_
  · refine ok_aload_n (dd TX12_takeSign_0 7 rfl) 0 rfl ?_
    refine ok_iconst (v := (2 : Int32)) (dd TX12_takeSign_0 8 rfl) (by decide) ?_
    refine ok_callVI (cn := 12) [.int (2 : Int32)] [] (fun b3 => C_X12_fails Γ b3 (2 : Int32)) rfl cy_X12_fails ml_RX12_165 im_X12_fails se_X12_fails (by decide) (Nat.le_of_ble_eq_true rfl) rfl (dd TX12_takeSign_0 9 rfl) (fun v4 => ?_)
    exact ok_zreturn (dd TX12_takeSign_0 10 rfl) rfl
  · refine ok_aload_n (dd TX12_takeSign_0 4 rfl) 0 rfl ?_
    refine ok_callVI (cn := 12) [] [] (fun b5 => C_X12_take Γ b5) rfl cy_X12_take ml_RX12_177 im_X12_take se_X12_take (by decide) (Nat.le_of_ble_eq_true rfl) rfl (dd TX12_takeSign_0 5 rfl) (fun v6 => ?_)
    refine ok_goto (tgt := 20) (dd TX12_takeSign_0 6 rfl) (by decide) ?_
    exact ok_zreturn (dd TX12_takeSign_0 10 rfl) rfl
def F_X12_opens (this : Nat) : M Int32 := bn (gI 12 43 (some this)) fun v1 => if ¬ v1 = (12 : Int32) then bn (gI 12 43 (some this)) fun v2 => bn (wI 12 43 (some this) (v2 + (1 : Int32))) fun _ => bn (pRc 12 (some this)) fun b3 => bn (F_X12_take b3) fun v4 => rz v4 else bn (pRc 12 (some this)) fun b5 => bn (F_X12_fails b5 (3 : Int32)) fun v6 => rz v6
set_option maxRecDepth 100000 in
theorem C_X12_opens (Γ : Gam) (this : Nat) : Ct Γ mX12_opens 7 vI [va_rf (some this)] (F_X12_opens this) := by
  refine ct_in (lv := [(0, va_rf (some this))]) (by decide) (by first | rfl | (simp only [lv_args, cat_rf]; rfl)) (by first | exact Nat.le_of_ble_eq_true rfl | (rw [lg_len]; simp only [List.map_cons, List.map_nil, cat_rf]; exact Nat.le_of_ble_eq_true rfl)) ?_
  unfold F_X12_opens
  refine ok_aload_n (dd TX12_opens_0 0 rfl) 0 rfl ?_
  refine ok_gI fl_RX12_181 rfl (dd TX12_opens_0 1 rfl) (fun v1 => ?_)
  refine ok_bipush (v := (12 : Int32)) (dd TX12_opens_0 2 rfl) (by decide) ?_
  refine ok_icmp_ne (tgt := 15) (dd TX12_opens_0 3 rfl) (by decide) ?_ ?_
  · refine ok_aload_n (dd TX12_opens_0 8 rfl) 0 rfl ?_
    refine ok_dup (dd TX12_opens_0 9 rfl) (by first | rfl | exact cat_rf _) ?_
    refine ok_gI fl_RX12_181 rfl (dd TX12_opens_0 10 rfl) (fun v2 => ?_)
    refine ok_iconst (v := (1 : Int32)) (dd TX12_opens_0 11 rfl) (by decide) ?_
    refine ok_iadd (dd TX12_opens_0 12 rfl) ?_
    refine ok_wI fl_RX12_181 (Or.inl rfl) (tyX12_ok 43 (by decide)) (by decide) rfl (dd TX12_opens_0 13 rfl) ?_
    refine ok_aload_n (dd TX12_opens_0 14 rfl) 0 rfl ?_
    refine ok_callVI (cn := 12) [] [] (fun b3 => C_X12_take Γ b3) rfl cy_X12_take ml_RX12_177 im_X12_take se_X12_take (by decide) (Nat.le_of_ble_eq_true rfl) rfl (dd TX12_opens_0 15 rfl) (fun v4 => ?_)
    exact ok_zreturn (dd TX12_opens_0 16 rfl) rfl
  · refine ok_aload_n (dd TX12_opens_0 4 rfl) 0 rfl ?_
    refine ok_iconst (v := (3 : Int32)) (dd TX12_opens_0 5 rfl) (by decide) ?_
    refine ok_callVI (cn := 12) [.int (3 : Int32)] [] (fun b5 => C_X12_fails Γ b5 (3 : Int32)) rfl cy_X12_fails ml_RX12_165 im_X12_fails se_X12_fails (by decide) (Nat.le_of_ble_eq_true rfl) rfl (dd TX12_opens_0 6 rfl) (fun v6 => ?_)
    exact ok_zreturn (dd TX12_opens_0 7 rfl) rfl
def F_X12_fault (this : Nat) (p0 : Int32) : M Int32 := bn (wI 12 35 (some this) (0 : Int32)) fun _ => if ¬ p0 = 0 then if ¬ p0 = (1 : Int32) then rt (-1 : Int32) else bn (gI 12 3 (some this)) fun v1 => rt v1 else bn (gI 12 2 (some this)) fun v2 => rt v2
set_option maxRecDepth 100000 in
theorem C_X12_fault (Γ : Gam) (this : Nat) (p0 : Int32) : Ct Γ mX12_fault 0 vI [va_rf (some this), .int p0] (F_X12_fault this p0) := by
  refine ct_in (lv := [(0, va_rf (some this)), (1, .int p0)]) (by decide) (by first | rfl | (simp only [lv_args, cat_rf]; rfl)) (by first | exact Nat.le_of_ble_eq_true rfl | (rw [lg_len]; simp only [List.map_cons, List.map_nil, cat_rf]; exact Nat.le_of_ble_eq_true rfl)) ?_
  unfold F_X12_fault
  refine ok_aload_n (dd TX12_fault_0 0 rfl) 0 rfl ?_
  refine ok_iconst (v := (0 : Int32)) (dd TX12_fault_0 1 rfl) (by decide) ?_
  refine ok_wI fl_RX12_90 (Or.inl rfl) (tyX12_ok 35 (by decide)) (by decide) rfl (dd TX12_fault_0 2 rfl) ?_
  refine ok_iload_n (dd TX12_fault_0 3 rfl) 1 rfl ?_
  refine ok_if_ne (tgt := 16) (dd TX12_fault_0 4 rfl) (by decide) ?_ ?_
  · refine ok_iload_n (dd TX12_fault_0 8 rfl) 1 rfl ?_
    refine ok_iconst (v := (1 : Int32)) (dd TX12_fault_0 9 rfl) (by decide) ?_
    refine ok_icmp_ne (tgt := 28) (dd TX12_fault_0 10 rfl) (by decide) ?_ ?_
    · refine ok_iconst (v := (-1 : Int32)) (dd TX12_fault_0 14 rfl) (by decide) ?_
      exact ok_ireturn (dd TX12_fault_0 15 rfl) rfl
    · refine ok_aload_n (dd TX12_fault_0 11 rfl) 0 rfl ?_
      refine ok_gI fl_RX12_159 rfl (dd TX12_fault_0 12 rfl) (fun v1 => ?_)
      refine ok_goto (tgt := 29) (dd TX12_fault_0 13 rfl) (by decide) ?_
      exact ok_ireturn (dd TX12_fault_0 15 rfl) rfl
  · refine ok_aload_n (dd TX12_fault_0 5 rfl) 0 rfl ?_
    refine ok_gI fl_RX12_156 rfl (dd TX12_fault_0 6 rfl) (fun v2 => ?_)
    refine ok_goto (tgt := 29) (dd TX12_fault_0 7 rfl) (by decide) ?_
    exact ok_ireturn (dd TX12_fault_0 15 rfl) rfl
def F_X12_isNext (this : Nat) (p0 : Int32) : M Int32 := bn (gI 12 45 (some this)) fun v1 => bn (gI 12 44 (some this)) fun v2 => bn (gI 12 44 (some this)) fun v3 => bn (gP 12 6 (some this)) fun v4 => bn (gI 12 45 (some this)) fun v5 => bn (lI 184 v4 v5) fun v6 => if v6 ≤ v3 then rz (0 : Int32) else bn (gP 12 7 (some this)) fun v7 => bn (lI 192 v7 (((60 : Int32) * v1) + v2)) fun v8 => if ¬ v8 = (3 : Int32) then rz (0 : Int32) else bn (gP 12 8 (some this)) fun v9 => bn (lI 200 v9 (((60 : Int32) * v1) + v2)) fun v10 => if ¬ v10 = p0 then rz (0 : Int32) else rz (1 : Int32)
set_option maxRecDepth 100000 in
theorem C_X12_isNext (Γ : Gam) (this : Nat) (p0 : Int32) : Ct Γ mX12_isNext 0 vI [va_rf (some this), .int p0] (F_X12_isNext this p0) := by
  refine ct_in (lv := [(0, va_rf (some this)), (1, .int p0)]) (by decide) (by first | rfl | (simp only [lv_args, cat_rf]; rfl)) (by first | exact Nat.le_of_ble_eq_true rfl | (rw [lg_len]; simp only [List.map_cons, List.map_nil, cat_rf]; exact Nat.le_of_ble_eq_true rfl)) ?_
  unfold F_X12_isNext
  refine ok_bipush (v := (60 : Int32)) (dd TX12_isNext_0 0 rfl) (by decide) ?_
  refine ok_aload_n (dd TX12_isNext_0 1 rfl) 0 rfl ?_
  refine ok_gI fl_RX12_208 rfl (dd TX12_isNext_0 2 rfl) (fun v1 => ?_)
  refine ok_imul (dd TX12_isNext_0 3 rfl) ?_
  refine ok_aload_n (dd TX12_isNext_0 4 rfl) 0 rfl ?_
  refine ok_gI fl_RX12_211 rfl (dd TX12_isNext_0 5 rfl) (fun v2 => ?_)
  refine ok_iadd (dd TX12_isNext_0 6 rfl) ?_
  refine ok_istore_n (lv' := [(2, .int (((60 : Int32) * v1) + v2)), (0, va_rf (some this)), (1, .int p0)]) (dd TX12_isNext_0 7 rfl) (by decide) (by first | rfl | (simp only [List.filter, cat_rf]; rfl)) ?_
  refine ok_aload_n (dd TX12_isNext_0 8 rfl) 1 rfl ?_
  refine ok_gI fl_RX12_211 rfl (dd TX12_isNext_0 9 rfl) (fun v3 => ?_)
  refine ok_aload_n (dd TX12_isNext_0 10 rfl) 1 rfl ?_
  refine ok_gP fl_RX12_19 rfl (dd TX12_isNext_0 11 rfl) (fun v4 => ?_)
  refine ok_aload_n (dd TX12_isNext_0 12 rfl) 1 rfl ?_
  refine ok_gI fl_RX12_208 rfl (dd TX12_isNext_0 13 rfl) (fun v5 => ?_)
  refine ok_lI (kd := 184) (by decide) rfl (dd TX12_isNext_0 14 rfl) (fun v6 => ?_)
  refine ok_icmp_ge (tgt := 53) (dd TX12_isNext_0 15 rfl) (by decide) ?_ ?_
  · refine ok_iconst (v := (0 : Int32)) (dd TX12_isNext_0 30 rfl) (by decide) ?_
    exact ok_zreturn (dd TX12_isNext_0 31 rfl) rfl
  · refine ok_aload_n (dd TX12_isNext_0 16 rfl) 1 rfl ?_
    refine ok_gP fl_RX12_22 rfl (dd TX12_isNext_0 17 rfl) (fun v7 => ?_)
    refine ok_iload_n (dd TX12_isNext_0 18 rfl) 0 rfl ?_
    refine ok_lI (kd := 192) (by decide) rfl (dd TX12_isNext_0 19 rfl) (fun v8 => ?_)
    refine ok_iconst (v := (3 : Int32)) (dd TX12_isNext_0 20 rfl) (by decide) ?_
    refine ok_icmp_ne (tgt := 53) (dd TX12_isNext_0 21 rfl) (by decide) ?_ ?_
    · refine ok_iconst (v := (0 : Int32)) (dd TX12_isNext_0 30 rfl) (by decide) ?_
      exact ok_zreturn (dd TX12_isNext_0 31 rfl) rfl
    · refine ok_aload_n (dd TX12_isNext_0 22 rfl) 1 rfl ?_
      refine ok_gP fl_RX12_25 rfl (dd TX12_isNext_0 23 rfl) (fun v9 => ?_)
      refine ok_iload_n (dd TX12_isNext_0 24 rfl) 0 rfl ?_
      refine ok_lI (kd := 200) (by decide) rfl (dd TX12_isNext_0 25 rfl) (fun v10 => ?_)
      refine ok_iload_n (dd TX12_isNext_0 26 rfl) 2 rfl ?_
      refine ok_icmp_ne (tgt := 53) (dd TX12_isNext_0 27 rfl) (by decide) ?_ ?_
      · refine ok_iconst (v := (0 : Int32)) (dd TX12_isNext_0 30 rfl) (by decide) ?_
        exact ok_zreturn (dd TX12_isNext_0 31 rfl) rfl
      · refine ok_iconst (v := (1 : Int32)) (dd TX12_isNext_0 28 rfl) (by decide) ?_
        refine ok_goto (tgt := 54) (dd TX12_isNext_0 29 rfl) (by decide) ?_
        exact ok_zreturn (dd TX12_isNext_0 31 rfl) rfl
def F_X12_settleOf_L79 (k16 : Nat → Int32 → Int32 → Int32 → Int32 → Int32 → M Int32) (this : Nat) (x1 : Int32) (x2 : Int32) (x3 : Int32) (x4 : Int32) (x5 : Int32) : M Int32 := k16 this x1 x2 x3 x4 (x5 + (1 : Int32))
set_option maxRecDepth 100000 in
theorem O_X12_settleOf_L79 (Γ : Gam) (k16 : Nat → Int32 → Int32 → Int32 → Int32 → Int32 → M Int32) (hk16 : ∀ (z0 : Nat) (z1 : Int32) (z2 : Int32) (z3 : Int32) (z4 : Int32) (z5 : Int32), Ok Γ mX12_settleOf 0 (qo Γ vI) 16 [(0, va_rf (some z0)), (1, .int z1), (2, .int z2), (3, .int z3), (4, .int z4), (5, .int z5)] [] (k16 z0 z1 z2 z3 z4 z5)) (this : Nat) (x1 : Int32) (x2 : Int32) (x3 : Int32) (x4 : Int32) (x5 : Int32) : Ok Γ mX12_settleOf 0 (qo Γ vI) 79 [(0, va_rf (some this)), (1, .int x1), (2, .int x2), (3, .int x3), (4, .int x4), (5, .int x5)] [] (F_X12_settleOf_L79 k16 this x1 x2 x3 x4 x5) := by
  unfold F_X12_settleOf_L79
  refine ok_iinc (lv' := [(5, .int (x5 + (1 : Int32))), (0, va_rf (some this)), (1, .int x1), (2, .int x2), (3, .int x3), (4, .int x4)]) (dd TX12_settleOf_1 8 rfl) 5 rfl (congrArg (fun q : Int32 => x5 + q) (show Int32.ofInt (1) = (1 : Int32) from by decide)) (by decide) (by first | rfl | (simp only [List.filter, cat_rf]; rfl)) ?_
  refine ok_goto (tgt := 16) (dd TX12_settleOf_1 9 rfl) (by decide) ?_
  refine ok_sub [1, 2, 3, 4, 5, 0] rfl ?_
  exact hk16 this x1 x2 x3 x4 (x5 + (1 : Int32))
def F_X12_settleOf_L16 : Nat → Nat → Int32 → Int32 → Int32 → Int32 → Int32 → M Int32
  | 0 => fun _ _ _ _ _ _ => fl
  | n + 1 => fun this x1 x2 x3 x4 x5 => bn (gI 12 30 (some this)) fun v3 => if v3 ≤ x5 then rt x4 else bn (gP 12 29 (some this)) fun v4 => bn (lI 328 v4 ((4 : Int32) * x5)) fun v5 => if ¬ v5 = x1 then F_X12_settleOf_L79 (F_X12_settleOf_L16 n) this x1 x2 x3 x4 x5 else bn (gP 12 29 (some this)) fun v6 => bn (lI 328 v6 (((4 : Int32) * x5) + (1 : Int32))) fun v7 => if ¬ v7 = x2 then F_X12_settleOf_L79 (F_X12_settleOf_L16 n) this x1 x2 x3 x4 x5 else bn (gP 12 29 (some this)) fun v8 => bn (lI 328 v8 (((4 : Int32) * x5) + (3 : Int32))) fun v9 => if x3 < v9 then F_X12_settleOf_L79 (F_X12_settleOf_L16 n) this x1 x2 x3 x4 x5 else bn (gP 12 29 (some this)) fun v10 => bn (lI 328 v10 (((4 : Int32) * x5) + (2 : Int32))) fun v11 => F_X12_settleOf_L79 (F_X12_settleOf_L16 n) this x1 x2 x3 v11 x5
set_option maxRecDepth 100000 in
theorem O_X12_settleOf_L16 (Γ : Gam) (n : Nat) : ∀ (this : Nat) (x1 : Int32) (x2 : Int32) (x3 : Int32) (x4 : Int32) (x5 : Int32), Ok Γ mX12_settleOf 0 (qo Γ vI) 16 [(0, va_rf (some this)), (1, .int x1), (2, .int x2), (3, .int x3), (4, .int x4), (5, .int x5)] [] (F_X12_settleOf_L16 n this x1 x2 x3 x4 x5) := by
  induction n with
  | zero => intro this x1 x2 x3 x4 x5; exact ok_fl
  | succ n ih =>
    intro this x1 x2 x3 x4 x5
    rw [F_X12_settleOf_L16]
    refine ok_iload (dd TX12_settleOf_0 11 rfl) 5 rfl ?_
    refine ok_aload_n (dd TX12_settleOf_0 12 rfl) 0 rfl ?_
    refine ok_gI fl_RX12_235 rfl (dd TX12_settleOf_0 13 rfl) (fun v3 => ?_)
    refine ok_icmp_ge (tgt := 85) (dd TX12_settleOf_0 14 rfl) (by decide) ?_ ?_
    · refine ok_iload (dd TX12_settleOf_1 10 rfl) 4 rfl ?_
      exact ok_ireturn (dd TX12_settleOf_1 11 rfl) rfl
    · refine ok_iconst (v := (4 : Int32)) (dd TX12_settleOf_0 15 rfl) (by decide) ?_
      refine ok_iload (dd TX12_settleOf_0 16 rfl) 5 rfl ?_
      refine ok_imul (dd TX12_settleOf_0 17 rfl) ?_
      refine ok_istore (lv' := [(6, .int ((4 : Int32) * x5)), (0, va_rf (some this)), (1, .int x1), (2, .int x2), (3, .int x3), (4, .int x4), (5, .int x5)]) (dd TX12_settleOf_0 18 rfl) (by decide) (by first | rfl | (simp only [List.filter, cat_rf]; rfl)) ?_
      refine ok_aload_n (dd TX12_settleOf_0 19 rfl) 1 rfl ?_
      refine ok_gP fl_RX12_75 rfl (dd TX12_settleOf_0 20 rfl) (fun v4 => ?_)
      refine ok_iload (dd TX12_settleOf_0 21 rfl) 0 rfl ?_
      refine ok_lI (kd := 328) (by decide) rfl (dd TX12_settleOf_0 22 rfl) (fun v5 => ?_)
      refine ok_iload_n (dd TX12_settleOf_0 23 rfl) 2 rfl ?_
      refine ok_icmp_ne (tgt := 79) (dd TX12_settleOf_0 24 rfl) (by decide) ?_ ?_
      · refine ok_sub [1, 2, 3, 4, 5, 6] rfl ?_
        exact O_X12_settleOf_L79 Γ (F_X12_settleOf_L16 n) ih this x1 x2 x3 x4 x5
      · refine ok_aload_n (dd TX12_settleOf_0 25 rfl) 1 rfl ?_
        refine ok_gP fl_RX12_75 rfl (dd TX12_settleOf_0 26 rfl) (fun v6 => ?_)
        refine ok_iload (dd TX12_settleOf_0 27 rfl) 0 rfl ?_
        refine ok_iconst (v := (1 : Int32)) (dd TX12_settleOf_0 28 rfl) (by decide) ?_
        refine ok_iadd (dd TX12_settleOf_0 29 rfl) ?_
        refine ok_lI (kd := 328) (by decide) rfl (dd TX12_settleOf_0 30 rfl) (fun v7 => ?_)
        refine ok_iload_n (dd TX12_settleOf_0 31 rfl) 3 rfl ?_
        refine ok_icmp_ne (tgt := 79) (dd TX12_settleOf_0 32 rfl) (by decide) ?_ ?_
        · refine ok_sub [1, 2, 3, 4, 5, 6] rfl ?_
          exact O_X12_settleOf_L79 Γ (F_X12_settleOf_L16 n) ih this x1 x2 x3 x4 x5
        · refine ok_aload_n (dd TX12_settleOf_0 33 rfl) 1 rfl ?_
          refine ok_gP fl_RX12_75 rfl (dd TX12_settleOf_0 34 rfl) (fun v8 => ?_)
          refine ok_iload (dd TX12_settleOf_0 35 rfl) 0 rfl ?_
          refine ok_iconst (v := (3 : Int32)) (dd TX12_settleOf_0 36 rfl) (by decide) ?_
          refine ok_iadd (dd TX12_settleOf_0 37 rfl) ?_
          refine ok_lI (kd := 328) (by decide) rfl (dd TX12_settleOf_0 38 rfl) (fun v9 => ?_)
          refine ok_iload_n (dd TX12_settleOf_0 39 rfl) 4 rfl ?_
          refine ok_icmp_gt (tgt := 79) (dd TX12_settleOf_1 0 rfl) (by decide) ?_ ?_
          · refine ok_sub [1, 2, 3, 4, 5, 6] rfl ?_
            exact O_X12_settleOf_L79 Γ (F_X12_settleOf_L16 n) ih this x1 x2 x3 x4 x5
          · refine ok_aload_n (dd TX12_settleOf_1 1 rfl) 1 rfl ?_
            refine ok_gP fl_RX12_75 rfl (dd TX12_settleOf_1 2 rfl) (fun v10 => ?_)
            refine ok_iload (dd TX12_settleOf_1 3 rfl) 0 rfl ?_
            refine ok_iconst (v := (2 : Int32)) (dd TX12_settleOf_1 4 rfl) (by decide) ?_
            refine ok_iadd (dd TX12_settleOf_1 5 rfl) ?_
            refine ok_lI (kd := 328) (by decide) rfl (dd TX12_settleOf_1 6 rfl) (fun v11 => ?_)
            refine ok_istore (lv' := [(4, .int v11), (6, .int ((4 : Int32) * x5)), (0, va_rf (some this)), (1, .int x1), (2, .int x2), (3, .int x3), (5, .int x5)]) (dd TX12_settleOf_1 7 rfl) (by decide) (by first | rfl | (simp only [List.filter, cat_rf]; rfl)) ?_
            refine ok_sub [2, 3, 4, 5, 0, 6] rfl ?_
            exact O_X12_settleOf_L79 Γ (F_X12_settleOf_L16 n) ih this x1 x2 x3 v11 x5
def F_X12_settleOf (this : Nat) (p0 : Int32) (p1 : Int32) (p2 : Int32) : M Int32 := bn (gP 12 25 (some this)) fun v1 => bn (lI 296 v1 (((6 : Int32) * p1) + p0)) fun v2 => F_X12_settleOf_L16 FU this p0 p1 p2 v2 (0 : Int32)
set_option maxRecDepth 100000 in
theorem C_X12_settleOf (Γ : Gam) (this : Nat) (p0 : Int32) (p1 : Int32) (p2 : Int32) : Ct Γ mX12_settleOf 0 vI [va_rf (some this), .int p0, .int p1, .int p2] (F_X12_settleOf this p0 p1 p2) := by
  refine ct_in (lv := [(0, va_rf (some this)), (1, .int p0), (2, .int p1), (3, .int p2)]) (by decide) (by first | rfl | (simp only [lv_args, cat_rf]; rfl)) (by first | exact Nat.le_of_ble_eq_true rfl | (rw [lg_len]; simp only [List.map_cons, List.map_nil, cat_rf]; exact Nat.le_of_ble_eq_true rfl)) ?_
  unfold F_X12_settleOf
  refine ok_aload_n (dd TX12_settleOf_0 0 rfl) 0 rfl ?_
  refine ok_gP fl_RX12_63 rfl (dd TX12_settleOf_0 1 rfl) (fun v1 => ?_)
  refine ok_bipush (v := (6 : Int32)) (dd TX12_settleOf_0 2 rfl) (by decide) ?_
  refine ok_iload_n (dd TX12_settleOf_0 3 rfl) 2 rfl ?_
  refine ok_imul (dd TX12_settleOf_0 4 rfl) ?_
  refine ok_iload_n (dd TX12_settleOf_0 5 rfl) 1 rfl ?_
  refine ok_iadd (dd TX12_settleOf_0 6 rfl) ?_
  refine ok_lI (kd := 296) (by decide) rfl (dd TX12_settleOf_0 7 rfl) (fun v2 => ?_)
  refine ok_istore (lv' := [(4, .int v2), (0, va_rf (some this)), (1, .int p0), (2, .int p1), (3, .int p2)]) (dd TX12_settleOf_0 8 rfl) (by decide) (by first | rfl | (simp only [List.filter, cat_rf]; rfl)) ?_
  refine ok_iconst (v := (0 : Int32)) (dd TX12_settleOf_0 9 rfl) (by decide) ?_
  refine ok_istore (lv' := [(5, .int (0 : Int32)), (4, .int v2), (0, va_rf (some this)), (1, .int p0), (2, .int p1), (3, .int p2)]) (dd TX12_settleOf_0 10 rfl) (by decide) (by first | rfl | (simp only [List.filter, cat_rf]; rfl)) ?_
  refine ok_sub [2, 3, 4, 5, 1, 0] rfl ?_
  exact O_X12_settleOf_L16 Γ FU this p0 p1 p2 v2 (0 : Int32)
def F_X12_latest (this : Nat) (p0 : Int32) : M Int32 := bn (gI 12 24 (some this)) fun v1 => if ¬ v1 = 0 then bn (gI 12 24 (some this)) fun v2 => bn (gI 12 24 (some this)) fun v3 => bn (pRc 12 (some this)) fun b4 => bn (F_X12_settleOf b4 p0 (v2 - (1 : Int32)) v3) fun v5 => rt v5 else rt (-1 : Int32)
set_option maxRecDepth 100000 in
theorem C_X12_latest (Γ : Gam) (this : Nat) (p0 : Int32) : Ct Γ mX12_latest 1 vI [va_rf (some this), .int p0] (F_X12_latest this p0) := by
  refine ct_in (lv := [(0, va_rf (some this)), (1, .int p0)]) (by decide) (by first | rfl | (simp only [lv_args, cat_rf]; rfl)) (by first | exact Nat.le_of_ble_eq_true rfl | (rw [lg_len]; simp only [List.map_cons, List.map_nil, cat_rf]; exact Nat.le_of_ble_eq_true rfl)) ?_
  unfold F_X12_latest
  refine ok_aload_n (dd TX12_latest_0 0 rfl) 0 rfl ?_
  refine ok_gI fl_RX12_238 rfl (dd TX12_latest_0 1 rfl) (fun v1 => ?_)
  refine ok_if_ne (tgt := 11) (dd TX12_latest_0 2 rfl) (by decide) ?_ ?_
  · refine ok_aload_n (dd TX12_latest_0 5 rfl) 0 rfl ?_
    refine ok_iload_n (dd TX12_latest_0 6 rfl) 1 rfl ?_
    refine ok_aload_n (dd TX12_latest_0 7 rfl) 0 rfl ?_
    refine ok_gI fl_RX12_238 rfl (dd TX12_latest_0 8 rfl) (fun v2 => ?_)
    refine ok_iconst (v := (1 : Int32)) (dd TX12_latest_0 9 rfl) (by decide) ?_
    refine ok_isub (dd TX12_latest_0 10 rfl) ?_
    refine ok_aload_n (dd TX12_latest_0 11 rfl) 0 rfl ?_
    refine ok_gI fl_RX12_238 rfl (dd TX12_latest_0 12 rfl) (fun v3 => ?_)
    refine ok_callVI (cn := 12) [.int p0, .int (v2 - (1 : Int32)), .int v3] [] (fun b4 => C_X12_settleOf Γ b4 p0 (v2 - (1 : Int32)) v3) rfl cy_X12_settleOf ml_RX12_241 im_X12_settleOf se_X12_settleOf (by decide) (Nat.le_of_ble_eq_true rfl) rfl (dd TX12_latest_0 13 rfl) (fun v5 => ?_)
    exact ok_ireturn (dd TX12_latest_0 14 rfl) rfl
  · refine ok_iconst (v := (-1 : Int32)) (dd TX12_latest_0 3 rfl) (by decide) ?_
    refine ok_goto (tgt := 26) (dd TX12_latest_0 4 rfl) (by decide) ?_
    exact ok_ireturn (dd TX12_latest_0 14 rfl) rfl
def F_X12_move_L213 (this : Nat) (x3 : Int32) (x4 : Int32) (x5 : Int32) (x8 : Int32) (x9 : Int32) (x10 : Int32) : M Unit := bn (gP 12 18 (some this)) fun v15 => bn (stI 264 v15 x3 x8) fun _ => bn (gP 12 14 (some this)) fun v16 => bn (lI 232 v16 x9) fun v17 => bn (stI 232 v16 x9 (v17 + x5)) fun _ => bn (gP 12 14 (some this)) fun v18 => bn (lI 232 v18 x10) fun v19 => bn (stI 232 v18 x10 (v19 - x5)) fun _ => bn (gP 12 15 (some this)) fun v20 => bn (lL 241 v20 x9) fun v21 => bn (stL 241 v20 x9 (v21 + (x5.toInt64 * x4.toInt64))) fun _ => bn (gP 12 15 (some this)) fun v22 => bn (lL 241 v22 x10) fun v23 => bn (stL 241 v22 x10 (v23 - (x5.toInt64 * x4.toInt64))) fun _ => rt ()
set_option maxRecDepth 100000 in
theorem O_X12_move_L213 (Γ : Gam) (this : Nat) (x3 : Int32) (x4 : Int32) (x5 : Int32) (x8 : Int32) (x9 : Int32) (x10 : Int32) : Ok Γ mX12_move 0 (qo Γ vV) 213 [(0, va_rf (some this)), (3, .int x3), (4, .int x4), (5, .int x5), (8, .int x8), (9, .int x9), (10, .int x10)] [] (F_X12_move_L213 this x3 x4 x5 x8 x9 x10) := by
  unfold F_X12_move_L213
  refine ok_aload_n (dd TX12_move_2 37 rfl) 0 rfl ?_
  refine ok_gP fl_RX12_51 rfl (dd TX12_move_2 38 rfl) (fun v15 => ?_)
  refine ok_iload_n (dd TX12_move_2 39 rfl) 1 rfl ?_
  refine ok_iload (dd TX12_move_3 0 rfl) 4 rfl ?_
  refine ok_stI (kd := 264) (by decide) rfl (dd TX12_move_3 1 rfl) ?_
  refine ok_aload_n (dd TX12_move_3 2 rfl) 0 rfl ?_
  refine ok_gP fl_RX12_39 rfl (dd TX12_move_3 3 rfl) (fun v16 => ?_)
  refine ok_iload (dd TX12_move_3 4 rfl) 5 rfl ?_
  refine ok_dup2_11 (dd TX12_move_3 5 rfl) (by first | rfl | exact cat_rf _) (by first | rfl | exact cat_rf _) ?_
  refine ok_lI (kd := 232) (by decide) rfl (dd TX12_move_3 6 rfl) (fun v17 => ?_)
  refine ok_iload (dd TX12_move_3 7 rfl) 3 rfl ?_
  refine ok_iadd (dd TX12_move_3 8 rfl) ?_
  refine ok_stI (kd := 232) (by decide) rfl (dd TX12_move_3 9 rfl) ?_
  refine ok_aload_n (dd TX12_move_3 10 rfl) 0 rfl ?_
  refine ok_gP fl_RX12_39 rfl (dd TX12_move_3 11 rfl) (fun v18 => ?_)
  refine ok_iload (dd TX12_move_3 12 rfl) 6 rfl ?_
  refine ok_dup2_11 (dd TX12_move_3 13 rfl) (by first | rfl | exact cat_rf _) (by first | rfl | exact cat_rf _) ?_
  refine ok_lI (kd := 232) (by decide) rfl (dd TX12_move_3 14 rfl) (fun v19 => ?_)
  refine ok_iload (dd TX12_move_3 15 rfl) 3 rfl ?_
  refine ok_isub (dd TX12_move_3 16 rfl) ?_
  refine ok_stI (kd := 232) (by decide) rfl (dd TX12_move_3 17 rfl) ?_
  refine ok_aload_n (dd TX12_move_3 18 rfl) 0 rfl ?_
  refine ok_gP fl_RX12_42 rfl (dd TX12_move_3 19 rfl) (fun v20 => ?_)
  refine ok_iload (dd TX12_move_3 20 rfl) 5 rfl ?_
  refine ok_dup2_11 (dd TX12_move_3 21 rfl) (by first | rfl | exact cat_rf _) (by first | rfl | exact cat_rf _) ?_
  refine ok_lL (kd := 241) (by decide) rfl (dd TX12_move_3 22 rfl) (fun v21 => ?_)
  refine ok_iload (dd TX12_move_3 23 rfl) 3 rfl ?_
  refine ok_i2l (dd TX12_move_3 24 rfl) ?_
  refine ok_iload (dd TX12_move_3 25 rfl) 2 rfl ?_
  refine ok_i2l (dd TX12_move_3 26 rfl) ?_
  refine ok_lmul (dd TX12_move_3 27 rfl) ?_
  refine ok_ladd (dd TX12_move_3 28 rfl) ?_
  refine ok_stL (kd := 241) (by decide) rfl (dd TX12_move_3 29 rfl) ?_
  refine ok_aload_n (dd TX12_move_3 30 rfl) 0 rfl ?_
  refine ok_gP fl_RX12_42 rfl (dd TX12_move_3 31 rfl) (fun v22 => ?_)
  refine ok_iload (dd TX12_move_3 32 rfl) 6 rfl ?_
  refine ok_dup2_11 (dd TX12_move_3 33 rfl) (by first | rfl | exact cat_rf _) (by first | rfl | exact cat_rf _) ?_
  refine ok_lL (kd := 241) (by decide) rfl (dd TX12_move_3 34 rfl) (fun v23 => ?_)
  refine ok_iload (dd TX12_move_3 35 rfl) 3 rfl ?_
  refine ok_i2l (dd TX12_move_3 36 rfl) ?_
  refine ok_iload (dd TX12_move_3 37 rfl) 2 rfl ?_
  refine ok_i2l (dd TX12_move_3 38 rfl) ?_
  refine ok_lmul (dd TX12_move_3 39 rfl) ?_
  refine ok_lsub (dd TX12_move_4 0 rfl) ?_
  refine ok_stL (kd := 241) (by decide) rfl (dd TX12_move_4 1 rfl) ?_
  exact ok_return (dd TX12_move_4 2 rfl) rfl
def F_X12_move_L179 (this : Nat) (x1 : Int32) (x3 : Int32) (x4 : Int32) (x5 : Int32) (x6 : Int32) (x8 : Int32) (x9 : Int32) (x10 : Int32) (y0 : Int32) (y1 : Int32) : M Unit := if (y1 + y0) ≤ 0 then F_X12_move_L213 this x3 x4 x5 x8 x9 x10 else bn (gP 12 16 (some this)) fun v11 => bn (stI 248 v11 (x6 + x8) x1) fun _ => bn (gP 12 17 (some this)) fun v12 => bn (stI 256 v12 (x6 + x8) (y1 + y0)) fun _ => F_X12_move_L213 this x3 x4 x5 (x8 + (1 : Int32)) x9 x10
set_option maxRecDepth 100000 in
theorem O_X12_move_L179 (Γ : Gam) (this : Nat) (x1 : Int32) (x3 : Int32) (x4 : Int32) (x5 : Int32) (x6 : Int32) (x8 : Int32) (x9 : Int32) (x10 : Int32) (y0 : Int32) (y1 : Int32) : Ok Γ mX12_move 0 (qo Γ vV) 179 [(0, va_rf (some this)), (1, .int x1), (3, .int x3), (4, .int x4), (5, .int x5), (6, .int x6), (8, .int x8), (9, .int x9), (10, .int x10)] [.int y0, .int y1] (F_X12_move_L179 this x1 x3 x4 x5 x6 x8 x9 x10 y0 y1) := by
  unfold F_X12_move_L179
  refine ok_iadd (dd TX12_move_2 18 rfl) ?_
  refine ok_istore (lv' := [(11, .int (y1 + y0)), (0, va_rf (some this)), (1, .int x1), (3, .int x3), (4, .int x4), (5, .int x5), (6, .int x6), (8, .int x8), (9, .int x9), (10, .int x10)]) (dd TX12_move_2 19 rfl) (by decide) (by first | rfl | (simp only [List.filter, cat_rf]; rfl)) ?_
  refine ok_iload (dd TX12_move_2 20 rfl) 0 rfl ?_
  refine ok_if_le (tgt := 213) (dd TX12_move_2 21 rfl) (by decide) ?_ ?_
  · refine ok_sub [1, 3, 4, 5, 7, 8, 9] rfl ?_
    exact O_X12_move_L213 Γ this x3 x4 x5 x8 x9 x10
  · refine ok_aload_n (dd TX12_move_2 22 rfl) 1 rfl ?_
    refine ok_gP fl_RX12_45 rfl (dd TX12_move_2 23 rfl) (fun v11 => ?_)
    refine ok_iload (dd TX12_move_2 24 rfl) 6 rfl ?_
    refine ok_iload (dd TX12_move_2 25 rfl) 7 rfl ?_
    refine ok_iadd (dd TX12_move_2 26 rfl) ?_
    refine ok_iload_n (dd TX12_move_2 27 rfl) 2 rfl ?_
    refine ok_stI (kd := 248) (by decide) rfl (dd TX12_move_2 28 rfl) ?_
    refine ok_aload_n (dd TX12_move_2 29 rfl) 1 rfl ?_
    refine ok_gP fl_RX12_48 rfl (dd TX12_move_2 30 rfl) (fun v12 => ?_)
    refine ok_iload (dd TX12_move_2 31 rfl) 6 rfl ?_
    refine ok_iload (dd TX12_move_2 32 rfl) 7 rfl ?_
    refine ok_iadd (dd TX12_move_2 33 rfl) ?_
    refine ok_iload (dd TX12_move_2 34 rfl) 0 rfl ?_
    refine ok_stI (kd := 256) (by decide) rfl (dd TX12_move_2 35 rfl) ?_
    refine ok_iinc (lv' := [(8, .int (x8 + (1 : Int32))), (11, .int (y1 + y0)), (0, va_rf (some this)), (1, .int x1), (3, .int x3), (4, .int x4), (5, .int x5), (6, .int x6), (9, .int x9), (10, .int x10)]) (dd TX12_move_2 36 rfl) 7 rfl (congrArg (fun q : Int32 => x8 + q) (show Int32.ofInt (1) = (1 : Int32) from by decide)) (by decide) (by first | rfl | (simp only [List.filter, cat_rf]; rfl)) ?_
    refine ok_sub [2, 4, 5, 6, 0, 8, 9] rfl ?_
    exact O_X12_move_L213 Γ this x3 x4 x5 (x8 + (1 : Int32)) x9 x10
def F_X12_move_L134 (k23 : Nat → Int32 → Int32 → Int32 → Int32 → Int32 → Int32 → Int32 → Int32 → Int32 → M Unit) (this : Nat) (x1 : Int32) (x2 : Int32) (x3 : Int32) (x4 : Int32) (x5 : Int32) (x6 : Int32) (x7 : Int32) (x8 : Int32) (x9 : Int32) : M Unit := k23 this x1 x2 x3 x4 x5 x6 x7 x8 (x9 + (1 : Int32))
set_option maxRecDepth 100000 in
theorem O_X12_move_L134 (Γ : Gam) (k23 : Nat → Int32 → Int32 → Int32 → Int32 → Int32 → Int32 → Int32 → Int32 → Int32 → M Unit) (hk23 : ∀ (z0 : Nat) (z1 : Int32) (z2 : Int32) (z3 : Int32) (z4 : Int32) (z5 : Int32) (z6 : Int32) (z7 : Int32) (z8 : Int32) (z9 : Int32), Ok Γ mX12_move 0 (qo Γ vV) 23 [(0, va_rf (some z0)), (1, .int z1), (2, .int z2), (3, .int z3), (4, .int z4), (5, .int z5), (6, .int z6), (7, .int z7), (8, .int z8), (9, .int z9)] [] (k23 z0 z1 z2 z3 z4 z5 z6 z7 z8 z9)) (this : Nat) (x1 : Int32) (x2 : Int32) (x3 : Int32) (x4 : Int32) (x5 : Int32) (x6 : Int32) (x7 : Int32) (x8 : Int32) (x9 : Int32) : Ok Γ mX12_move 0 (qo Γ vV) 134 [(0, va_rf (some this)), (1, .int x1), (2, .int x2), (3, .int x3), (4, .int x4), (5, .int x5), (6, .int x6), (7, .int x7), (8, .int x8), (9, .int x9)] [] (F_X12_move_L134 k23 this x1 x2 x3 x4 x5 x6 x7 x8 x9) := by
  unfold F_X12_move_L134
  refine ok_iinc (lv' := [(9, .int (x9 + (1 : Int32))), (0, va_rf (some this)), (1, .int x1), (2, .int x2), (3, .int x3), (4, .int x4), (5, .int x5), (6, .int x6), (7, .int x7), (8, .int x8)]) (dd TX12_move_1 32 rfl) 9 rfl (congrArg (fun q : Int32 => x9 + q) (show Int32.ofInt (1) = (1 : Int32) from by decide)) (by decide) (by first | rfl | (simp only [List.filter, cat_rf]; rfl)) ?_
  refine ok_goto (tgt := 23) (dd TX12_move_1 33 rfl) (by decide) ?_
  refine ok_sub [1, 2, 3, 4, 5, 6, 7, 8, 9, 0] rfl ?_
  exact hk23 this x1 x2 x3 x4 x5 x6 x7 x8 (x9 + (1 : Int32))
def F_X12_move_L99 (k23 : Nat → Int32 → Int32 → Int32 → Int32 → Int32 → Int32 → Int32 → Int32 → Int32 → M Unit) (this : Nat) (x1 : Int32) (x2 : Int32) (x3 : Int32) (x4 : Int32) (x5 : Int32) (x6 : Int32) (x7 : Int32) (x8 : Int32) (x9 : Int32) (x10 : Int32) (x11 : Int32) : M Unit := if ¬ x11 = 0 then bn (gP 12 16 (some this)) fun v13 => bn (stI 248 v13 (x6 + x8) x10) fun _ => bn (gP 12 17 (some this)) fun v14 => bn (stI 256 v14 (x6 + x8) x11) fun _ => F_X12_move_L134 k23 this x1 x2 x3 x4 x5 x6 x7 (x8 + (1 : Int32)) x9 else F_X12_move_L134 k23 this x1 x2 x3 x4 x5 x6 x7 x8 x9
set_option maxRecDepth 100000 in
theorem O_X12_move_L99 (Γ : Gam) (k23 : Nat → Int32 → Int32 → Int32 → Int32 → Int32 → Int32 → Int32 → Int32 → Int32 → M Unit) (hk23 : ∀ (z0 : Nat) (z1 : Int32) (z2 : Int32) (z3 : Int32) (z4 : Int32) (z5 : Int32) (z6 : Int32) (z7 : Int32) (z8 : Int32) (z9 : Int32), Ok Γ mX12_move 0 (qo Γ vV) 23 [(0, va_rf (some z0)), (1, .int z1), (2, .int z2), (3, .int z3), (4, .int z4), (5, .int z5), (6, .int z6), (7, .int z7), (8, .int z8), (9, .int z9)] [] (k23 z0 z1 z2 z3 z4 z5 z6 z7 z8 z9)) (this : Nat) (x1 : Int32) (x2 : Int32) (x3 : Int32) (x4 : Int32) (x5 : Int32) (x6 : Int32) (x7 : Int32) (x8 : Int32) (x9 : Int32) (x10 : Int32) (x11 : Int32) : Ok Γ mX12_move 0 (qo Γ vV) 99 [(0, va_rf (some this)), (1, .int x1), (2, .int x2), (3, .int x3), (4, .int x4), (5, .int x5), (6, .int x6), (7, .int x7), (8, .int x8), (9, .int x9), (10, .int x10), (11, .int x11)] [] (F_X12_move_L99 k23 this x1 x2 x3 x4 x5 x6 x7 x8 x9 x10 x11) := by
  unfold F_X12_move_L99
  refine ok_iload (dd TX12_move_1 14 rfl) 11 rfl ?_
  refine ok_if_ne (tgt := 107) (dd TX12_move_1 15 rfl) (by decide) ?_ ?_
  · refine ok_aload_n (dd TX12_move_1 17 rfl) 0 rfl ?_
    refine ok_gP fl_RX12_45 rfl (dd TX12_move_1 18 rfl) (fun v13 => ?_)
    refine ok_iload (dd TX12_move_1 19 rfl) 6 rfl ?_
    refine ok_iload (dd TX12_move_1 20 rfl) 8 rfl ?_
    refine ok_iadd (dd TX12_move_1 21 rfl) ?_
    refine ok_iload (dd TX12_move_1 22 rfl) 10 rfl ?_
    refine ok_stI (kd := 248) (by decide) rfl (dd TX12_move_1 23 rfl) ?_
    refine ok_aload_n (dd TX12_move_1 24 rfl) 0 rfl ?_
    refine ok_gP fl_RX12_48 rfl (dd TX12_move_1 25 rfl) (fun v14 => ?_)
    refine ok_iload (dd TX12_move_1 26 rfl) 6 rfl ?_
    refine ok_iload (dd TX12_move_1 27 rfl) 8 rfl ?_
    refine ok_iadd (dd TX12_move_1 28 rfl) ?_
    refine ok_iload (dd TX12_move_1 29 rfl) 11 rfl ?_
    refine ok_stI (kd := 256) (by decide) rfl (dd TX12_move_1 30 rfl) ?_
    refine ok_iinc (lv' := [(8, .int (x8 + (1 : Int32))), (0, va_rf (some this)), (1, .int x1), (2, .int x2), (3, .int x3), (4, .int x4), (5, .int x5), (6, .int x6), (7, .int x7), (9, .int x9), (10, .int x10), (11, .int x11)]) (dd TX12_move_1 31 rfl) 8 rfl (congrArg (fun q : Int32 => x8 + q) (show Int32.ofInt (1) = (1 : Int32) from by decide)) (by decide) (by first | rfl | (simp only [List.filter, cat_rf]; rfl)) ?_
    refine ok_sub [1, 2, 3, 4, 5, 6, 7, 8, 0, 9] rfl ?_
    exact O_X12_move_L134 Γ k23 hk23 this x1 x2 x3 x4 x5 x6 x7 (x8 + (1 : Int32)) x9
  · refine ok_goto (tgt := 134) (dd TX12_move_1 16 rfl) (by decide) ?_
    refine ok_sub [0, 1, 2, 3, 4, 5, 6, 7, 8, 9] rfl ?_
    exact O_X12_move_L134 Γ k23 hk23 this x1 x2 x3 x4 x5 x6 x7 x8 x9
def F_X12_move_L83 (k23 : Nat → Int32 → Int32 → Int32 → Int32 → Int32 → Int32 → Int32 → Int32 → Int32 → M Unit) (this : Nat) (x1 : Int32) (x2 : Int32) (x3 : Int32) (x4 : Int32) (x5 : Int32) (x6 : Int32) (x7 : Int32) (x8 : Int32) (x9 : Int32) (x10 : Int32) (x11 : Int32) (y0 : Int32) : M Unit := F_X12_move_L99 k23 this x1 x2 x3 x4 x5 x6 (x7 - y0) x8 x9 x10 (x11 - y0)
set_option maxRecDepth 100000 in
theorem O_X12_move_L83 (Γ : Gam) (k23 : Nat → Int32 → Int32 → Int32 → Int32 → Int32 → Int32 → Int32 → Int32 → Int32 → M Unit) (hk23 : ∀ (z0 : Nat) (z1 : Int32) (z2 : Int32) (z3 : Int32) (z4 : Int32) (z5 : Int32) (z6 : Int32) (z7 : Int32) (z8 : Int32) (z9 : Int32), Ok Γ mX12_move 0 (qo Γ vV) 23 [(0, va_rf (some z0)), (1, .int z1), (2, .int z2), (3, .int z3), (4, .int z4), (5, .int z5), (6, .int z6), (7, .int z7), (8, .int z8), (9, .int z9)] [] (k23 z0 z1 z2 z3 z4 z5 z6 z7 z8 z9)) (this : Nat) (x1 : Int32) (x2 : Int32) (x3 : Int32) (x4 : Int32) (x5 : Int32) (x6 : Int32) (x7 : Int32) (x8 : Int32) (x9 : Int32) (x10 : Int32) (x11 : Int32) (y0 : Int32) : Ok Γ mX12_move 0 (qo Γ vV) 83 [(0, va_rf (some this)), (1, .int x1), (2, .int x2), (3, .int x3), (4, .int x4), (5, .int x5), (6, .int x6), (7, .int x7), (8, .int x8), (9, .int x9), (10, .int x10), (11, .int x11)] [.int y0] (F_X12_move_L83 k23 this x1 x2 x3 x4 x5 x6 x7 x8 x9 x10 x11 y0) := by
  unfold F_X12_move_L83
  refine ok_istore (lv' := [(12, .int y0), (0, va_rf (some this)), (1, .int x1), (2, .int x2), (3, .int x3), (4, .int x4), (5, .int x5), (6, .int x6), (7, .int x7), (8, .int x8), (9, .int x9), (10, .int x10), (11, .int x11)]) (dd TX12_move_1 5 rfl) (by decide) (by first | rfl | (simp only [List.filter, cat_rf]; rfl)) ?_
  refine ok_iload (dd TX12_move_1 6 rfl) 12 rfl ?_
  refine ok_iload (dd TX12_move_1 7 rfl) 0 rfl ?_
  refine ok_isub (dd TX12_move_1 8 rfl) ?_
  refine ok_istore (lv' := [(11, .int (x11 - y0)), (12, .int y0), (0, va_rf (some this)), (1, .int x1), (2, .int x2), (3, .int x3), (4, .int x4), (5, .int x5), (6, .int x6), (7, .int x7), (8, .int x8), (9, .int x9), (10, .int x10)]) (dd TX12_move_1 9 rfl) (by decide) (by first | rfl | (simp only [List.filter, cat_rf]; rfl)) ?_
  refine ok_iload (dd TX12_move_1 10 rfl) 9 rfl ?_
  refine ok_iload (dd TX12_move_1 11 rfl) 1 rfl ?_
  refine ok_isub (dd TX12_move_1 12 rfl) ?_
  refine ok_istore (lv' := [(7, .int (x7 - y0)), (11, .int (x11 - y0)), (12, .int y0), (0, va_rf (some this)), (1, .int x1), (2, .int x2), (3, .int x3), (4, .int x4), (5, .int x5), (6, .int x6), (8, .int x8), (9, .int x9), (10, .int x10)]) (dd TX12_move_1 13 rfl) (by decide) (by first | rfl | (simp only [List.filter, cat_rf]; rfl)) ?_
  refine ok_sub [3, 4, 5, 6, 7, 8, 9, 0, 10, 11, 12, 1] rfl ?_
  exact O_X12_move_L99 Γ k23 hk23 this x1 x2 x3 x4 x5 x6 (x7 - y0) x8 x9 x10 (x11 - y0)
def F_X12_move_L23 : Nat → Nat → Int32 → Int32 → Int32 → Int32 → Int32 → Int32 → Int32 → Int32 → Int32 → M Unit
  | 0 => fun _ _ _ _ _ _ _ _ _ _ => fl
  | n + 1 => fun this x1 x2 x3 x4 x5 x6 x7 x8 x9 => bn (gP 12 18 (some this)) fun v1 => bn (lI 264 v1 x3) fun v2 => if v2 ≤ x9 then bn (gP 12 14 (some this)) fun v3 => bn (lI 232 v3 (((6 : Int32) * x1) + x3)) fun v4 => if 0 ≤ v4 then F_X12_move_L179 this x1 x3 x4 x5 x6 x8 (((6 : Int32) * x1) + x3) (((6 : Int32) * x2) + x3) (0 : Int32) x5 else bn (gP 12 14 (some this)) fun v5 => bn (lI 232 v5 (((6 : Int32) * x1) + x3)) fun v6 => F_X12_move_L179 this x1 x3 x4 x5 x6 x8 (((6 : Int32) * x1) + x3) (((6 : Int32) * x2) + x3) v6 x5 else bn (gP 12 16 (some this)) fun v7 => bn (lI 248 v7 (x6 + x9)) fun v8 => bn (gP 12 17 (some this)) fun v9 => bn (lI 256 v9 (x6 + x9)) fun v10 => if ¬ v8 = x2 then F_X12_move_L99 (F_X12_move_L23 n) this x1 x2 x3 x4 x5 x6 x7 x8 x9 v8 v10 else if x7 ≤ 0 then F_X12_move_L99 (F_X12_move_L23 n) this x1 x2 x3 x4 x5 x6 x7 x8 x9 v8 v10 else if x7 ≤ v10 then F_X12_move_L83 (F_X12_move_L23 n) this x1 x2 x3 x4 x5 x6 x7 x8 x9 v8 v10 x7 else F_X12_move_L83 (F_X12_move_L23 n) this x1 x2 x3 x4 x5 x6 x7 x8 x9 v8 v10 v10
set_option maxRecDepth 100000 in
theorem O_X12_move_L23 (Γ : Gam) (n : Nat) : ∀ (this : Nat) (x1 : Int32) (x2 : Int32) (x3 : Int32) (x4 : Int32) (x5 : Int32) (x6 : Int32) (x7 : Int32) (x8 : Int32) (x9 : Int32), Ok Γ mX12_move 0 (qo Γ vV) 23 [(0, va_rf (some this)), (1, .int x1), (2, .int x2), (3, .int x3), (4, .int x4), (5, .int x5), (6, .int x6), (7, .int x7), (8, .int x8), (9, .int x9)] [] (F_X12_move_L23 n this x1 x2 x3 x4 x5 x6 x7 x8 x9) := by
  induction n with
  | zero => intro this x1 x2 x3 x4 x5 x6 x7 x8 x9; exact ok_fl
  | succ n ih =>
    intro this x1 x2 x3 x4 x5 x6 x7 x8 x9
    rw [F_X12_move_L23]
    refine ok_iload (dd TX12_move_0 14 rfl) 9 rfl ?_
    refine ok_aload_n (dd TX12_move_0 15 rfl) 0 rfl ?_
    refine ok_gP fl_RX12_51 rfl (dd TX12_move_0 16 rfl) (fun v1 => ?_)
    refine ok_iload_n (dd TX12_move_0 17 rfl) 3 rfl ?_
    refine ok_lI (kd := 264) (by decide) rfl (dd TX12_move_0 18 rfl) (fun v2 => ?_)
    refine ok_icmp_ge (tgt := 140) (dd TX12_move_0 19 rfl) (by decide) ?_ ?_
    · refine ok_bipush (v := (6 : Int32)) (dd TX12_move_1 34 rfl) (by decide) ?_
      refine ok_iload_n (dd TX12_move_1 35 rfl) 1 rfl ?_
      refine ok_imul (dd TX12_move_1 36 rfl) ?_
      refine ok_iload_n (dd TX12_move_1 37 rfl) 3 rfl ?_
      refine ok_iadd (dd TX12_move_1 38 rfl) ?_
      refine ok_istore (lv' := [(9, .int (((6 : Int32) * x1) + x3)), (0, va_rf (some this)), (1, .int x1), (2, .int x2), (3, .int x3), (4, .int x4), (5, .int x5), (6, .int x6), (7, .int x7), (8, .int x8)]) (dd TX12_move_1 39 rfl) (by decide) (by first | rfl | (simp only [List.filter, cat_rf]; rfl)) ?_
      refine ok_bipush (v := (6 : Int32)) (dd TX12_move_2 0 rfl) (by decide) ?_
      refine ok_iload_n (dd TX12_move_2 1 rfl) 3 rfl ?_
      refine ok_imul (dd TX12_move_2 2 rfl) ?_
      refine ok_iload_n (dd TX12_move_2 3 rfl) 4 rfl ?_
      refine ok_iadd (dd TX12_move_2 4 rfl) ?_
      refine ok_istore (lv' := [(10, .int (((6 : Int32) * x2) + x3)), (9, .int (((6 : Int32) * x1) + x3)), (0, va_rf (some this)), (1, .int x1), (2, .int x2), (3, .int x3), (4, .int x4), (5, .int x5), (6, .int x6), (7, .int x7), (8, .int x8)]) (dd TX12_move_2 5 rfl) (by decide) (by first | rfl | (simp only [List.filter, cat_rf]; rfl)) ?_
      refine ok_iload (dd TX12_move_2 6 rfl) 7 rfl ?_
      refine ok_aload_n (dd TX12_move_2 7 rfl) 2 rfl ?_
      refine ok_gP fl_RX12_39 rfl (dd TX12_move_2 8 rfl) (fun v3 => ?_)
      refine ok_iload (dd TX12_move_2 9 rfl) 1 rfl ?_
      refine ok_lI (kd := 232) (by decide) rfl (dd TX12_move_2 10 rfl) (fun v4 => ?_)
      refine ok_if_ge (tgt := 178) (dd TX12_move_2 11 rfl) (by decide) ?_ ?_
      · refine ok_iconst (v := (0 : Int32)) (dd TX12_move_2 17 rfl) (by decide) ?_
        refine ok_sub [2, 3, 5, 6, 7, 8, 10, 1, 0] rfl ?_
        exact O_X12_move_L179 Γ this x1 x3 x4 x5 x6 x8 (((6 : Int32) * x1) + x3) (((6 : Int32) * x2) + x3) (0 : Int32) x5
      · refine ok_aload_n (dd TX12_move_2 12 rfl) 2 rfl ?_
        refine ok_gP fl_RX12_39 rfl (dd TX12_move_2 13 rfl) (fun v5 => ?_)
        refine ok_iload (dd TX12_move_2 14 rfl) 1 rfl ?_
        refine ok_lI (kd := 232) (by decide) rfl (dd TX12_move_2 15 rfl) (fun v6 => ?_)
        refine ok_goto (tgt := 179) (dd TX12_move_2 16 rfl) (by decide) ?_
        refine ok_sub [2, 3, 5, 6, 7, 8, 10, 1, 0] rfl ?_
        exact O_X12_move_L179 Γ this x1 x3 x4 x5 x6 x8 (((6 : Int32) * x1) + x3) (((6 : Int32) * x2) + x3) v6 x5
    · refine ok_aload_n (dd TX12_move_0 20 rfl) 0 rfl ?_
      refine ok_gP fl_RX12_45 rfl (dd TX12_move_0 21 rfl) (fun v7 => ?_)
      refine ok_iload (dd TX12_move_0 22 rfl) 6 rfl ?_
      refine ok_iload (dd TX12_move_0 23 rfl) 9 rfl ?_
      refine ok_iadd (dd TX12_move_0 24 rfl) ?_
      refine ok_lI (kd := 248) (by decide) rfl (dd TX12_move_0 25 rfl) (fun v8 => ?_)
      refine ok_istore (lv' := [(10, .int v8), (0, va_rf (some this)), (1, .int x1), (2, .int x2), (3, .int x3), (4, .int x4), (5, .int x5), (6, .int x6), (7, .int x7), (8, .int x8), (9, .int x9)]) (dd TX12_move_0 26 rfl) (by decide) (by first | rfl | (simp only [List.filter, cat_rf]; rfl)) ?_
      refine ok_aload_n (dd TX12_move_0 27 rfl) 1 rfl ?_
      refine ok_gP fl_RX12_48 rfl (dd TX12_move_0 28 rfl) (fun v9 => ?_)
      refine ok_iload (dd TX12_move_0 29 rfl) 7 rfl ?_
      refine ok_iload (dd TX12_move_0 30 rfl) 10 rfl ?_
      refine ok_iadd (dd TX12_move_0 31 rfl) ?_
      refine ok_lI (kd := 256) (by decide) rfl (dd TX12_move_0 32 rfl) (fun v10 => ?_)
      refine ok_istore (lv' := [(11, .int v10), (10, .int v8), (0, va_rf (some this)), (1, .int x1), (2, .int x2), (3, .int x3), (4, .int x4), (5, .int x5), (6, .int x6), (7, .int x7), (8, .int x8), (9, .int x9)]) (dd TX12_move_0 33 rfl) (by decide) (by first | rfl | (simp only [List.filter, cat_rf]; rfl)) ?_
      refine ok_iload (dd TX12_move_0 34 rfl) 1 rfl ?_
      refine ok_iload_n (dd TX12_move_0 35 rfl) 4 rfl ?_
      refine ok_icmp_ne (tgt := 99) (dd TX12_move_0 36 rfl) (by decide) ?_ ?_
      · refine ok_sub [2, 3, 4, 5, 6, 7, 8, 9, 10, 11, 1, 0] rfl ?_
        exact O_X12_move_L99 Γ (F_X12_move_L23 n) ih this x1 x2 x3 x4 x5 x6 x7 x8 x9 v8 v10
      · refine ok_iload (dd TX12_move_0 37 rfl) 9 rfl ?_
        refine ok_if_le (tgt := 99) (dd TX12_move_0 38 rfl) (by decide) ?_ ?_
        · refine ok_sub [2, 3, 4, 5, 6, 7, 8, 9, 10, 11, 1, 0] rfl ?_
          exact O_X12_move_L99 Γ (F_X12_move_L23 n) ih this x1 x2 x3 x4 x5 x6 x7 x8 x9 v8 v10
        · refine ok_iload (dd TX12_move_0 39 rfl) 0 rfl ?_
          refine ok_iload (dd TX12_move_1 0 rfl) 9 rfl ?_
          refine ok_icmp_ge (tgt := 81) (dd TX12_move_1 1 rfl) (by decide) ?_ ?_
          · refine ok_iload (dd TX12_move_1 4 rfl) 9 rfl ?_
            refine ok_sub [2, 3, 4, 5, 6, 7, 8, 9, 10, 11, 1, 0] rfl ?_
            exact O_X12_move_L83 Γ (F_X12_move_L23 n) ih this x1 x2 x3 x4 x5 x6 x7 x8 x9 v8 v10 x7
          · refine ok_iload (dd TX12_move_1 2 rfl) 0 rfl ?_
            refine ok_goto (tgt := 83) (dd TX12_move_1 3 rfl) (by decide) ?_
            refine ok_sub [2, 3, 4, 5, 6, 7, 8, 9, 10, 11, 1, 0] rfl ?_
            exact O_X12_move_L83 Γ (F_X12_move_L23 n) ih this x1 x2 x3 x4 x5 x6 x7 x8 x9 v8 v10 v10
def F_X12_move (this : Nat) (p0 : Int32) (p1 : Int32) (p2 : Int32) (p3 : Int32) (p4 : Int32) : M Unit := if ¬ p0 = p1 then F_X12_move_L23 FU this p0 p1 p2 p3 p4 ((1600 : Int32) * p2) p4 (0 : Int32) (0 : Int32) else rt ()
set_option maxRecDepth 100000 in
theorem C_X12_move (Γ : Gam) (this : Nat) (p0 : Int32) (p1 : Int32) (p2 : Int32) (p3 : Int32) (p4 : Int32) : Ct Γ mX12_move 0 vV [va_rf (some this), .int p0, .int p1, .int p2, .int p3, .int p4] (F_X12_move this p0 p1 p2 p3 p4) := by
  refine ct_in (lv := [(0, va_rf (some this)), (1, .int p0), (2, .int p1), (3, .int p2), (4, .int p3), (5, .int p4)]) (by decide) (by first | rfl | (simp only [lv_args, cat_rf]; rfl)) (by first | exact Nat.le_of_ble_eq_true rfl | (rw [lg_len]; simp only [List.map_cons, List.map_nil, cat_rf]; exact Nat.le_of_ble_eq_true rfl)) ?_
  unfold F_X12_move
  refine ok_iload_n (dd TX12_move_0 0 rfl) 1 rfl ?_
  refine ok_iload_n (dd TX12_move_0 1 rfl) 2 rfl ?_
  refine ok_icmp_ne (tgt := 6) (dd TX12_move_0 2 rfl) (by decide) ?_ ?_
  · refine ok_sipush (v := (1600 : Int32)) (dd TX12_move_0 4 rfl) (by decide) ?_
    refine ok_iload_n (dd TX12_move_0 5 rfl) 3 rfl ?_
    refine ok_imul (dd TX12_move_0 6 rfl) ?_
    refine ok_istore (lv' := [(6, .int ((1600 : Int32) * p2)), (0, va_rf (some this)), (1, .int p0), (2, .int p1), (3, .int p2), (4, .int p3), (5, .int p4)]) (dd TX12_move_0 7 rfl) (by decide) (by first | rfl | (simp only [List.filter, cat_rf]; rfl)) ?_
    refine ok_iload (dd TX12_move_0 8 rfl) 6 rfl ?_
    refine ok_istore (lv' := [(7, .int p4), (6, .int ((1600 : Int32) * p2)), (0, va_rf (some this)), (1, .int p0), (2, .int p1), (3, .int p2), (4, .int p3), (5, .int p4)]) (dd TX12_move_0 9 rfl) (by decide) (by first | rfl | (simp only [List.filter, cat_rf]; rfl)) ?_
    refine ok_iconst (v := (0 : Int32)) (dd TX12_move_0 10 rfl) (by decide) ?_
    refine ok_istore (lv' := [(8, .int (0 : Int32)), (7, .int p4), (6, .int ((1600 : Int32) * p2)), (0, va_rf (some this)), (1, .int p0), (2, .int p1), (3, .int p2), (4, .int p3), (5, .int p4)]) (dd TX12_move_0 11 rfl) (by decide) (by first | rfl | (simp only [List.filter, cat_rf]; rfl)) ?_
    refine ok_iconst (v := (0 : Int32)) (dd TX12_move_0 12 rfl) (by decide) ?_
    refine ok_istore (lv' := [(9, .int (0 : Int32)), (8, .int (0 : Int32)), (7, .int p4), (6, .int ((1600 : Int32) * p2)), (0, va_rf (some this)), (1, .int p0), (2, .int p1), (3, .int p2), (4, .int p3), (5, .int p4)]) (dd TX12_move_0 13 rfl) (by decide) (by first | rfl | (simp only [List.filter, cat_rf]; rfl)) ?_
    refine ok_sub [4, 5, 6, 7, 8, 9, 3, 2, 1, 0] rfl ?_
    exact O_X12_move_L23 Γ FU this p0 p1 p2 p3 p4 ((1600 : Int32) * p2) p4 (0 : Int32) (0 : Int32)
  · exact ok_return (dd TX12_move_0 3 rfl) rfl
def F_X12_dropOrder_L14 : Nat → Nat → Int32 → M Unit
  | 0 => fun _ _ => fl
  | n + 1 => fun this x2 => bn (gI 12 21 (some this)) fun v2 => if ((5 : Int32) * v2) ≤ x2 then rt () else bn (gP 12 20 (some this)) fun v3 => bn (gP 12 20 (some this)) fun v4 => bn (lI 280 v4 (x2 + (5 : Int32))) fun v5 => bn (stI 280 v3 x2 v5) fun _ => F_X12_dropOrder_L14 n this (x2 + (1 : Int32))
set_option maxRecDepth 100000 in
theorem O_X12_dropOrder_L14 (Γ : Gam) (n : Nat) : ∀ (this : Nat) (x2 : Int32), Ok Γ mX12_dropOrder 0 (qo Γ vV) 14 [(0, va_rf (some this)), (2, .int x2)] [] (F_X12_dropOrder_L14 n this x2) := by
  induction n with
  | zero => intro this x2; exact ok_fl
  | succ n ih =>
    intro this x2
    rw [F_X12_dropOrder_L14]
    refine ok_iload_n (dd TX12_dropOrder_0 10 rfl) 1 rfl ?_
    refine ok_iconst (v := (5 : Int32)) (dd TX12_dropOrder_0 11 rfl) (by decide) ?_
    refine ok_aload_n (dd TX12_dropOrder_0 12 rfl) 0 rfl ?_
    refine ok_gI fl_RX12_245 rfl (dd TX12_dropOrder_0 13 rfl) (fun v2 => ?_)
    refine ok_imul (dd TX12_dropOrder_0 14 rfl) ?_
    refine ok_icmp_ge (tgt := 44) (dd TX12_dropOrder_0 15 rfl) (by decide) ?_ ?_
    · exact ok_return (dd TX12_dropOrder_0 28 rfl) rfl
    · refine ok_aload_n (dd TX12_dropOrder_0 16 rfl) 0 rfl ?_
      refine ok_gP fl_RX12_57 rfl (dd TX12_dropOrder_0 17 rfl) (fun v3 => ?_)
      refine ok_iload_n (dd TX12_dropOrder_0 18 rfl) 1 rfl ?_
      refine ok_aload_n (dd TX12_dropOrder_0 19 rfl) 0 rfl ?_
      refine ok_gP fl_RX12_57 rfl (dd TX12_dropOrder_0 20 rfl) (fun v4 => ?_)
      refine ok_iload_n (dd TX12_dropOrder_0 21 rfl) 1 rfl ?_
      refine ok_iconst (v := (5 : Int32)) (dd TX12_dropOrder_0 22 rfl) (by decide) ?_
      refine ok_iadd (dd TX12_dropOrder_0 23 rfl) ?_
      refine ok_lI (kd := 280) (by decide) rfl (dd TX12_dropOrder_0 24 rfl) (fun v5 => ?_)
      refine ok_stI (kd := 280) (by decide) rfl (dd TX12_dropOrder_0 25 rfl) ?_
      refine ok_iinc (lv' := [(2, .int (x2 + (1 : Int32))), (0, va_rf (some this))]) (dd TX12_dropOrder_0 26 rfl) 1 rfl (congrArg (fun q : Int32 => x2 + q) (show Int32.ofInt (1) = (1 : Int32) from by decide)) (by decide) (by first | rfl | (simp only [List.filter, cat_rf]; rfl)) ?_
      refine ok_goto (tgt := 14) (dd TX12_dropOrder_0 27 rfl) (by decide) ?_
      refine ok_sub [1, 0] rfl ?_
      exact ih this (x2 + (1 : Int32))
def F_X12_dropOrder (this : Nat) (p0 : Int32) : M Unit := bn (gI 12 21 (some this)) fun v1 => bn (wI 12 21 (some this) (v1 - (1 : Int32))) fun _ => F_X12_dropOrder_L14 FU this ((5 : Int32) * p0)
set_option maxRecDepth 100000 in
theorem C_X12_dropOrder (Γ : Gam) (this : Nat) (p0 : Int32) : Ct Γ mX12_dropOrder 0 vV [va_rf (some this), .int p0] (F_X12_dropOrder this p0) := by
  refine ct_in (lv := [(0, va_rf (some this)), (1, .int p0)]) (by decide) (by first | rfl | (simp only [lv_args, cat_rf]; rfl)) (by first | exact Nat.le_of_ble_eq_true rfl | (rw [lg_len]; simp only [List.map_cons, List.map_nil, cat_rf]; exact Nat.le_of_ble_eq_true rfl)) ?_
  unfold F_X12_dropOrder
  refine ok_aload_n (dd TX12_dropOrder_0 0 rfl) 0 rfl ?_
  refine ok_dup (dd TX12_dropOrder_0 1 rfl) (by first | rfl | exact cat_rf _) ?_
  refine ok_gI fl_RX12_245 rfl (dd TX12_dropOrder_0 2 rfl) (fun v1 => ?_)
  refine ok_iconst (v := (1 : Int32)) (dd TX12_dropOrder_0 3 rfl) (by decide) ?_
  refine ok_isub (dd TX12_dropOrder_0 4 rfl) ?_
  refine ok_wI fl_RX12_245 (Or.inl rfl) (tyX12_ok 21 (by decide)) (by decide) rfl (dd TX12_dropOrder_0 5 rfl) ?_
  refine ok_iconst (v := (5 : Int32)) (dd TX12_dropOrder_0 6 rfl) (by decide) ?_
  refine ok_iload_n (dd TX12_dropOrder_0 7 rfl) 1 rfl ?_
  refine ok_imul (dd TX12_dropOrder_0 8 rfl) ?_
  refine ok_istore_n (lv' := [(2, .int ((5 : Int32) * p0)), (0, va_rf (some this)), (1, .int p0)]) (dd TX12_dropOrder_0 9 rfl) (by decide) (by first | rfl | (simp only [List.filter, cat_rf]; rfl)) ?_
  refine ok_sub [1, 0] rfl ?_
  exact O_X12_dropOrder_L14 Γ FU this ((5 : Int32) * p0)
def F_X12_isBehind (this : Nat) (p0 : Int32) (p1 : Int32) (p2 : Int32) : M Int32 := bn (gP 12 20 (some this)) fun v1 => bn (lI 280 v1 (((5 : Int32) * p0) + (3 : Int32))) fun v2 => bn (gP 12 20 (some this)) fun v3 => bn (lI 280 v3 (((5 : Int32) * p1) + (3 : Int32))) fun v4 => if v2 = v4 then if p0 ≤ p1 then rz (0 : Int32) else rz (1 : Int32) else if p2 = 0 then if v2 ≤ v4 then rz (0 : Int32) else rz (1 : Int32) else if v4 ≤ v2 then rz (0 : Int32) else rz (1 : Int32)
set_option maxRecDepth 100000 in
theorem C_X12_isBehind (Γ : Gam) (this : Nat) (p0 : Int32) (p1 : Int32) (p2 : Int32) : Ct Γ mX12_isBehind 0 vI [va_rf (some this), .int p0, .int p1, .int p2] (F_X12_isBehind this p0 p1 p2) := by
  refine ct_in (lv := [(0, va_rf (some this)), (1, .int p0), (2, .int p1), (3, .int p2)]) (by decide) (by first | rfl | (simp only [lv_args, cat_rf]; rfl)) (by first | exact Nat.le_of_ble_eq_true rfl | (rw [lg_len]; simp only [List.map_cons, List.map_nil, cat_rf]; exact Nat.le_of_ble_eq_true rfl)) ?_
  unfold F_X12_isBehind
  refine ok_aload_n (dd TX12_isBehind_0 0 rfl) 0 rfl ?_
  refine ok_gP fl_RX12_57 rfl (dd TX12_isBehind_0 1 rfl) (fun v1 => ?_)
  refine ok_iconst (v := (5 : Int32)) (dd TX12_isBehind_0 2 rfl) (by decide) ?_
  refine ok_iload_n (dd TX12_isBehind_0 3 rfl) 1 rfl ?_
  refine ok_imul (dd TX12_isBehind_0 4 rfl) ?_
  refine ok_iconst (v := (3 : Int32)) (dd TX12_isBehind_0 5 rfl) (by decide) ?_
  refine ok_iadd (dd TX12_isBehind_0 6 rfl) ?_
  refine ok_lI (kd := 280) (by decide) rfl (dd TX12_isBehind_0 7 rfl) (fun v2 => ?_)
  refine ok_istore (lv' := [(4, .int v2), (0, va_rf (some this)), (1, .int p0), (2, .int p1), (3, .int p2)]) (dd TX12_isBehind_0 8 rfl) (by decide) (by first | rfl | (simp only [List.filter, cat_rf]; rfl)) ?_
  refine ok_aload_n (dd TX12_isBehind_0 9 rfl) 1 rfl ?_
  refine ok_gP fl_RX12_57 rfl (dd TX12_isBehind_0 10 rfl) (fun v3 => ?_)
  refine ok_iconst (v := (5 : Int32)) (dd TX12_isBehind_0 11 rfl) (by decide) ?_
  refine ok_iload_n (dd TX12_isBehind_0 12 rfl) 3 rfl ?_
  refine ok_imul (dd TX12_isBehind_0 13 rfl) ?_
  refine ok_iconst (v := (3 : Int32)) (dd TX12_isBehind_0 14 rfl) (by decide) ?_
  refine ok_iadd (dd TX12_isBehind_0 15 rfl) ?_
  refine ok_lI (kd := 280) (by decide) rfl (dd TX12_isBehind_0 16 rfl) (fun v4 => ?_)
  refine ok_istore (lv' := [(5, .int v4), (4, .int v2), (0, va_rf (some this)), (1, .int p0), (2, .int p1), (3, .int p2)]) (dd TX12_isBehind_0 17 rfl) (by decide) (by first | rfl | (simp only [List.filter, cat_rf]; rfl)) ?_
  refine ok_iload (dd TX12_isBehind_0 18 rfl) 1 rfl ?_
  refine ok_iload (dd TX12_isBehind_0 19 rfl) 0 rfl ?_
  refine ok_icmp_eq (tgt := 63) (dd TX12_isBehind_0 20 rfl) (by decide) ?_ ?_
  · refine ok_iload_n (dd TX12_isBehind_0 37 rfl) 3 rfl ?_
    refine ok_iload_n (dd TX12_isBehind_0 38 rfl) 4 rfl ?_
    refine ok_icmp_le (tgt := 72) (dd TX12_isBehind_0 39 rfl) (by decide) ?_ ?_
    · refine ok_iconst (v := (0 : Int32)) (dd TX12_isBehind_1 2 rfl) (by decide) ?_
      exact ok_zreturn (dd TX12_isBehind_1 3 rfl) rfl
    · refine ok_iconst (v := (1 : Int32)) (dd TX12_isBehind_1 0 rfl) (by decide) ?_
      refine ok_goto (tgt := 73) (dd TX12_isBehind_1 1 rfl) (by decide) ?_
      exact ok_zreturn (dd TX12_isBehind_1 3 rfl) rfl
  · refine ok_iload_n (dd TX12_isBehind_0 21 rfl) 5 rfl ?_
    refine ok_if_eq (tgt := 50) (dd TX12_isBehind_0 22 rfl) (by decide) ?_ ?_
    · refine ok_iload (dd TX12_isBehind_0 30 rfl) 1 rfl ?_
      refine ok_iload (dd TX12_isBehind_0 31 rfl) 0 rfl ?_
      refine ok_icmp_le (tgt := 61) (dd TX12_isBehind_0 32 rfl) (by decide) ?_ ?_
      · refine ok_iconst (v := (0 : Int32)) (dd TX12_isBehind_0 35 rfl) (by decide) ?_
        exact ok_zreturn (dd TX12_isBehind_0 36 rfl) rfl
      · refine ok_iconst (v := (1 : Int32)) (dd TX12_isBehind_0 33 rfl) (by decide) ?_
        refine ok_goto (tgt := 62) (dd TX12_isBehind_0 34 rfl) (by decide) ?_
        exact ok_zreturn (dd TX12_isBehind_0 36 rfl) rfl
    · refine ok_iload (dd TX12_isBehind_0 23 rfl) 1 rfl ?_
      refine ok_iload (dd TX12_isBehind_0 24 rfl) 0 rfl ?_
      refine ok_icmp_ge (tgt := 46) (dd TX12_isBehind_0 25 rfl) (by decide) ?_ ?_
      · refine ok_iconst (v := (0 : Int32)) (dd TX12_isBehind_0 28 rfl) (by decide) ?_
        refine ok_goto (tgt := 62) (dd TX12_isBehind_0 29 rfl) (by decide) ?_
        exact ok_zreturn (dd TX12_isBehind_0 36 rfl) rfl
      · refine ok_iconst (v := (1 : Int32)) (dd TX12_isBehind_0 26 rfl) (by decide) ?_
        refine ok_goto (tgt := 62) (dd TX12_isBehind_0 27 rfl) (by decide) ?_
        exact ok_zreturn (dd TX12_isBehind_0 36 rfl) rfl
def F_X12_cancel_L65 (k12 : Nat → Int32 → Int32 → Int32 → M Int32) (this : Nat) (x1 : Int32) (x2 : Int32) (x3 : Int32) : M Int32 := k12 this x1 x2 (x3 + (-1 : Int32))
set_option maxRecDepth 100000 in
theorem O_X12_cancel_L65 (Γ : Gam) (k12 : Nat → Int32 → Int32 → Int32 → M Int32) (hk12 : ∀ (z0 : Nat) (z1 : Int32) (z2 : Int32) (z3 : Int32), Ok Γ mX12_cancel 1 (qo Γ vI) 12 [(0, va_rf (some z0)), (1, .int z1), (2, .int z2), (3, .int z3)] [] (k12 z0 z1 z2 z3)) (this : Nat) (x1 : Int32) (x2 : Int32) (x3 : Int32) : Ok Γ mX12_cancel 1 (qo Γ vI) 65 [(0, va_rf (some this)), (1, .int x1), (2, .int x2), (3, .int x3)] [] (F_X12_cancel_L65 k12 this x1 x2 x3) := by
  unfold F_X12_cancel_L65
  refine ok_iinc (lv' := [(3, .int (x3 + (-1 : Int32))), (0, va_rf (some this)), (1, .int x1), (2, .int x2)]) (dd TX12_cancel_1 3 rfl) 3 rfl (congrArg (fun q : Int32 => x3 + q) (show Int32.ofInt (-1) = (-1 : Int32) from by decide)) (by decide) (by first | rfl | (simp only [List.filter, cat_rf]; rfl)) ?_
  refine ok_goto (tgt := 12) (dd TX12_cancel_1 4 rfl) (by decide) ?_
  refine ok_sub [1, 2, 3, 0] rfl ?_
  exact hk12 this x1 x2 (x3 + (-1 : Int32))
def F_X12_cancel_L12 : Nat → Nat → Int32 → Int32 → Int32 → M Int32
  | 0 => fun _ _ _ _ => fl
  | n + 1 => fun this x1 x2 x3 => if x3 < 0 then rt (-1 : Int32) else bn (gP 12 20 (some this)) fun v2 => bn (lI 280 v2 ((5 : Int32) * x3)) fun v3 => if ¬ v3 = x1 then F_X12_cancel_L65 (F_X12_cancel_L12 n) this x1 x2 x3 else bn (gP 12 20 (some this)) fun v4 => bn (lI 280 v4 (((5 : Int32) * x3) + (2 : Int32))) fun v5 => if v5 = x2 then bn (gP 12 20 (some this)) fun v6 => bn (lI 280 v6 (((5 : Int32) * x3) + (4 : Int32))) fun v7 => bn (pRc 12 (some this)) fun b8 => bn (F_X12_dropOrder b8 x3) fun _ => rt v7 else F_X12_cancel_L65 (F_X12_cancel_L12 n) this x1 x2 x3
set_option maxRecDepth 100000 in
theorem O_X12_cancel_L12 (Γ : Gam) (n : Nat) : ∀ (this : Nat) (x1 : Int32) (x2 : Int32) (x3 : Int32), Ok Γ mX12_cancel 1 (qo Γ vI) 12 [(0, va_rf (some this)), (1, .int x1), (2, .int x2), (3, .int x3)] [] (F_X12_cancel_L12 n this x1 x2 x3) := by
  induction n with
  | zero => intro this x1 x2 x3; exact ok_fl
  | succ n ih =>
    intro this x1 x2 x3
    rw [F_X12_cancel_L12]
    refine ok_iload_n (dd TX12_cancel_0 8 rfl) 3 rfl ?_
    refine ok_if_lt (tgt := 71) (dd TX12_cancel_0 9 rfl) (by decide) ?_ ?_
    · refine ok_iconst (v := (-1 : Int32)) (dd TX12_cancel_1 5 rfl) (by decide) ?_
      exact ok_ireturn (dd TX12_cancel_1 6 rfl) rfl
    · refine ok_aload_n (dd TX12_cancel_0 10 rfl) 0 rfl ?_
      refine ok_gP fl_RX12_57 rfl (dd TX12_cancel_0 11 rfl) (fun v2 => ?_)
      refine ok_iconst (v := (5 : Int32)) (dd TX12_cancel_0 12 rfl) (by decide) ?_
      refine ok_iload_n (dd TX12_cancel_0 13 rfl) 3 rfl ?_
      refine ok_imul (dd TX12_cancel_0 14 rfl) ?_
      refine ok_lI (kd := 280) (by decide) rfl (dd TX12_cancel_0 15 rfl) (fun v3 => ?_)
      refine ok_iload_n (dd TX12_cancel_0 16 rfl) 1 rfl ?_
      refine ok_icmp_ne (tgt := 65) (dd TX12_cancel_0 17 rfl) (by decide) ?_ ?_
      · exact O_X12_cancel_L65 Γ (F_X12_cancel_L12 n) ih this x1 x2 x3
      · refine ok_aload_n (dd TX12_cancel_0 18 rfl) 0 rfl ?_
        refine ok_gP fl_RX12_57 rfl (dd TX12_cancel_0 19 rfl) (fun v4 => ?_)
        refine ok_iconst (v := (5 : Int32)) (dd TX12_cancel_0 20 rfl) (by decide) ?_
        refine ok_iload_n (dd TX12_cancel_0 21 rfl) 3 rfl ?_
        refine ok_imul (dd TX12_cancel_0 22 rfl) ?_
        refine ok_iconst (v := (2 : Int32)) (dd TX12_cancel_0 23 rfl) (by decide) ?_
        refine ok_iadd (dd TX12_cancel_0 24 rfl) ?_
        refine ok_lI (kd := 280) (by decide) rfl (dd TX12_cancel_0 25 rfl) (fun v5 => ?_)
        refine ok_iload_n (dd TX12_cancel_0 26 rfl) 2 rfl ?_
        refine ok_icmp_eq (tgt := 45) (dd TX12_cancel_0 27 rfl) (by decide) ?_ ?_
        · refine ok_aload_n (dd TX12_cancel_0 29 rfl) 0 rfl ?_
          refine ok_gP fl_RX12_57 rfl (dd TX12_cancel_0 30 rfl) (fun v6 => ?_)
          refine ok_iconst (v := (5 : Int32)) (dd TX12_cancel_0 31 rfl) (by decide) ?_
          refine ok_iload_n (dd TX12_cancel_0 32 rfl) 3 rfl ?_
          refine ok_imul (dd TX12_cancel_0 33 rfl) ?_
          refine ok_iconst (v := (4 : Int32)) (dd TX12_cancel_0 34 rfl) (by decide) ?_
          refine ok_iadd (dd TX12_cancel_0 35 rfl) ?_
          refine ok_lI (kd := 280) (by decide) rfl (dd TX12_cancel_0 36 rfl) (fun v7 => ?_)
          refine ok_istore (lv' := [(4, .int v7), (0, va_rf (some this)), (1, .int x1), (2, .int x2), (3, .int x3)]) (dd TX12_cancel_0 37 rfl) (by decide) (by first | rfl | (simp only [List.filter, cat_rf]; rfl)) ?_
          refine ok_aload_n (dd TX12_cancel_0 38 rfl) 1 rfl ?_
          refine ok_iload_n (dd TX12_cancel_0 39 rfl) 4 rfl ?_
          refine ok_callVV (cn := 12) [.int x3] [] (fun b8 => C_X12_dropOrder Γ b8 x3) rfl cy_X12_dropOrder ml_RX12_285 im_X12_dropOrder se_X12_dropOrder (by decide) (Nat.le_of_ble_eq_true rfl) rfl (dd TX12_cancel_1 0 rfl) ?_
          refine ok_iload (dd TX12_cancel_1 1 rfl) 0 rfl ?_
          exact ok_ireturn (dd TX12_cancel_1 2 rfl) rfl
        · refine ok_goto (tgt := 65) (dd TX12_cancel_0 28 rfl) (by decide) ?_
          exact O_X12_cancel_L65 Γ (F_X12_cancel_L12 n) ih this x1 x2 x3
def F_X12_cancel (this : Nat) (p0 : Int32) (p1 : Int32) : M Int32 := bn (wI 12 35 (some this) (0 : Int32)) fun _ => bn (gI 12 21 (some this)) fun v1 => F_X12_cancel_L12 FU this p0 p1 (v1 - (1 : Int32))
set_option maxRecDepth 100000 in
theorem C_X12_cancel (Γ : Gam) (this : Nat) (p0 : Int32) (p1 : Int32) : Ct Γ mX12_cancel 1 vI [va_rf (some this), .int p0, .int p1] (F_X12_cancel this p0 p1) := by
  refine ct_in (lv := [(0, va_rf (some this)), (1, .int p0), (2, .int p1)]) (by decide) (by first | rfl | (simp only [lv_args, cat_rf]; rfl)) (by first | exact Nat.le_of_ble_eq_true rfl | (rw [lg_len]; simp only [List.map_cons, List.map_nil, cat_rf]; exact Nat.le_of_ble_eq_true rfl)) ?_
  unfold F_X12_cancel
  refine ok_aload_n (dd TX12_cancel_0 0 rfl) 0 rfl ?_
  refine ok_iconst (v := (0 : Int32)) (dd TX12_cancel_0 1 rfl) (by decide) ?_
  refine ok_wI fl_RX12_90 (Or.inl rfl) (tyX12_ok 35 (by decide)) (by decide) rfl (dd TX12_cancel_0 2 rfl) ?_
  refine ok_aload_n (dd TX12_cancel_0 3 rfl) 0 rfl ?_
  refine ok_gI fl_RX12_245 rfl (dd TX12_cancel_0 4 rfl) (fun v1 => ?_)
  refine ok_iconst (v := (1 : Int32)) (dd TX12_cancel_0 5 rfl) (by decide) ?_
  refine ok_isub (dd TX12_cancel_0 6 rfl) ?_
  refine ok_istore_n (lv' := [(3, .int (v1 - (1 : Int32))), (0, va_rf (some this)), (1, .int p0), (2, .int p1)]) (dd TX12_cancel_0 7 rfl) (by decide) (by first | rfl | (simp only [List.filter, cat_rf]; rfl)) ?_
  refine ok_sub [1, 2, 3, 0] rfl ?_
  exact O_X12_cancel_L12 Γ FU this p0 p1 (v1 - (1 : Int32))
def F_X12_trade (this : Nat) (p0 : Int32) (p1 : Int32) : M Int32 := bn (wI 12 35 (some this) (0 : Int32)) fun _ => bn (gI 12 23 (some this)) fun v1 => bn (F_X12_in p0.toInt64 (0 : Int64) ((v1 - (1 : Int32)).toInt64)) fun v2 => if v2 = 0 then rt (-1 : Int32) else bn (F_X12_in p1.toInt64 (0 : Int64) (6 : Int64)) fun v3 => if v3 = 0 then rt (-1 : Int32) else bn (gP 12 22 (some this)) fun v4 => bn (lI 288 v4 (((7 : Int32) * p0) + p1)) fun v5 => rt v5
set_option maxRecDepth 100000 in
theorem C_X12_trade (Γ : Gam) (this : Nat) (p0 : Int32) (p1 : Int32) : Ct Γ mX12_trade 1 vI [va_rf (some this), .int p0, .int p1] (F_X12_trade this p0 p1) := by
  refine ct_in (lv := [(0, va_rf (some this)), (1, .int p0), (2, .int p1)]) (by decide) (by first | rfl | (simp only [lv_args, cat_rf]; rfl)) (by first | exact Nat.le_of_ble_eq_true rfl | (rw [lg_len]; simp only [List.map_cons, List.map_nil, cat_rf]; exact Nat.le_of_ble_eq_true rfl)) ?_
  unfold F_X12_trade
  refine ok_aload_n (dd TX12_trade_0 0 rfl) 0 rfl ?_
  refine ok_iconst (v := (0 : Int32)) (dd TX12_trade_0 1 rfl) (by decide) ?_
  refine ok_wI fl_RX12_90 (Or.inl rfl) (tyX12_ok 35 (by decide)) (by decide) rfl (dd TX12_trade_0 2 rfl) ?_
  refine ok_iload_n (dd TX12_trade_0 3 rfl) 1 rfl ?_
  refine ok_i2l (dd TX12_trade_0 4 rfl) ?_
  refine ok_lconst (v := (0 : Int64)) (dd TX12_trade_0 5 rfl) (by decide) ?_
  refine ok_aload_n (dd TX12_trade_0 6 rfl) 0 rfl ?_
  refine ok_gI fl_RX12_270 rfl (dd TX12_trade_0 7 rfl) (fun v1 => ?_)
  refine ok_iconst (v := (1 : Int32)) (dd TX12_trade_0 8 rfl) (by decide) ?_
  refine ok_isub (dd TX12_trade_0 9 rfl) ?_
  refine ok_i2l (dd TX12_trade_0 10 rfl) ?_
  refine ok_callSI [.long p0.toInt64, .long (0 : Int64), .long ((v1 - (1 : Int32)).toInt64)] [] (C_X12_in Γ p0.toInt64 (0 : Int64) ((v1 - (1 : Int32)).toInt64)) cy_X12_in ml_RX12_97 sm_X12_in (by decide) (Nat.le_of_ble_eq_true rfl) rfl (dd TX12_trade_0 11 rfl) (fun v2 => ?_)
  refine ok_if_eq (tgt := 47) (dd TX12_trade_0 12 rfl) (by decide) ?_ ?_
  · refine ok_iconst (v := (-1 : Int32)) (dd TX12_trade_0 28 rfl) (by decide) ?_
    exact ok_ireturn (dd TX12_trade_0 29 rfl) rfl
  · refine ok_iload_n (dd TX12_trade_0 13 rfl) 2 rfl ?_
    refine ok_i2l (dd TX12_trade_0 14 rfl) ?_
    refine ok_lconst (v := (0 : Int64)) (dd TX12_trade_0 15 rfl) (by decide) ?_
    refine ok_ldc2 (v := (6 : Int64)) (dd TX12_trade_0 16 rfl) cl2_RX12_290 ?_
    refine ok_callSI [.long p1.toInt64, .long (0 : Int64), .long (6 : Int64)] [] (C_X12_in Γ p1.toInt64 (0 : Int64) (6 : Int64)) cy_X12_in ml_RX12_97 sm_X12_in (by decide) (Nat.le_of_ble_eq_true rfl) rfl (dd TX12_trade_0 17 rfl) (fun v3 => ?_)
    refine ok_if_eq (tgt := 47) (dd TX12_trade_0 18 rfl) (by decide) ?_ ?_
    · refine ok_iconst (v := (-1 : Int32)) (dd TX12_trade_0 28 rfl) (by decide) ?_
      exact ok_ireturn (dd TX12_trade_0 29 rfl) rfl
    · refine ok_aload_n (dd TX12_trade_0 19 rfl) 0 rfl ?_
      refine ok_gP fl_RX12_60 rfl (dd TX12_trade_0 20 rfl) (fun v4 => ?_)
      refine ok_bipush (v := (7 : Int32)) (dd TX12_trade_0 21 rfl) (by decide) ?_
      refine ok_iload_n (dd TX12_trade_0 22 rfl) 1 rfl ?_
      refine ok_imul (dd TX12_trade_0 23 rfl) ?_
      refine ok_iload_n (dd TX12_trade_0 24 rfl) 2 rfl ?_
      refine ok_iadd (dd TX12_trade_0 25 rfl) ?_
      refine ok_lI (kd := 288) (by decide) rfl (dd TX12_trade_0 26 rfl) (fun v5 => ?_)
      refine ok_goto (tgt := 48) (dd TX12_trade_0 27 rfl) (by decide) ?_
      exact ok_ireturn (dd TX12_trade_0 29 rfl) rfl
def F_X12_strike (this : Nat) (p0 : Int32) : M Int32 := bn (wI 12 35 (some this) (0 : Int32)) fun _ => bn (gI 12 23 (some this)) fun v1 => bn (F_X12_in p0.toInt64 (0 : Int64) ((v1 - (1 : Int32)).toInt64)) fun v2 => if ¬ v2 = 0 then bn (gP 12 22 (some this)) fun v3 => bn (lI 288 v3 (((7 : Int32) * p0) + (6 : Int32))) fun v4 => if v4 = (1 : Int32) then rz (0 : Int32) else bn (gP 12 13 (some this)) fun v5 => bn (gP 12 22 (some this)) fun v6 => bn (lI 288 v6 (((7 : Int32) * p0) + (3 : Int32))) fun v7 => bn (lI 226 v5 v7) fun v8 => if ¬ v8 = 0 then rz (0 : Int32) else bn (gP 12 13 (some this)) fun v9 => bn (gP 12 22 (some this)) fun v10 => bn (lI 288 v10 (((7 : Int32) * p0) + (4 : Int32))) fun v11 => bn (lI 226 v9 v11) fun v12 => if ¬ v12 = 0 then rz (0 : Int32) else bn (gP 12 19 (some this)) fun v13 => bn (gP 12 22 (some this)) fun v14 => bn (lI 288 v14 ((7 : Int32) * p0)) fun v15 => bn (lI 274 v13 v15) fun v16 => if v16 = 0 then bn (gP 12 22 (some this)) fun v17 => bn (stI 288 v17 (((7 : Int32) * p0) + (6 : Int32)) (1 : Int32)) fun _ => bn (gP 12 22 (some this)) fun v18 => bn (lI 288 v18 (((7 : Int32) * p0) + (4 : Int32))) fun v19 => bn (gP 12 22 (some this)) fun v20 => bn (lI 288 v20 (((7 : Int32) * p0) + (3 : Int32))) fun v21 => bn (gP 12 22 (some this)) fun v22 => bn (lI 288 v22 ((7 : Int32) * p0)) fun v23 => bn (gP 12 22 (some this)) fun v24 => bn (lI 288 v24 (((7 : Int32) * p0) + (1 : Int32))) fun v25 => bn (gP 12 22 (some this)) fun v26 => bn (lI 288 v26 (((7 : Int32) * p0) + (2 : Int32))) fun v27 => bn (pRc 12 (some this)) fun b28 => bn (F_X12_move b28 v19 v21 v23 v25 v27) fun _ => rz (1 : Int32) else rz (0 : Int32) else rz (0 : Int32)
set_option maxRecDepth 100000 in
theorem C_X12_strike (Γ : Gam) (this : Nat) (p0 : Int32) : Ct Γ mX12_strike 1 vI [va_rf (some this), .int p0] (F_X12_strike this p0) := by
  refine ct_in (lv := [(0, va_rf (some this)), (1, .int p0)]) (by decide) (by first | rfl | (simp only [lv_args, cat_rf]; rfl)) (by first | exact Nat.le_of_ble_eq_true rfl | (rw [lg_len]; simp only [List.map_cons, List.map_nil, cat_rf]; exact Nat.le_of_ble_eq_true rfl)) ?_
  unfold F_X12_strike
  refine ok_aload_n (dd TX12_strike_0 0 rfl) 0 rfl ?_
  refine ok_iconst (v := (0 : Int32)) (dd TX12_strike_0 1 rfl) (by decide) ?_
  refine ok_wI fl_RX12_90 (Or.inl rfl) (tyX12_ok 35 (by decide)) (by decide) rfl (dd TX12_strike_0 2 rfl) ?_
  refine ok_iload_n (dd TX12_strike_0 3 rfl) 1 rfl ?_
  refine ok_i2l (dd TX12_strike_0 4 rfl) ?_
  refine ok_lconst (v := (0 : Int64)) (dd TX12_strike_0 5 rfl) (by decide) ?_
  refine ok_aload_n (dd TX12_strike_0 6 rfl) 0 rfl ?_
  refine ok_gI fl_RX12_270 rfl (dd TX12_strike_0 7 rfl) (fun v1 => ?_)
  refine ok_iconst (v := (1 : Int32)) (dd TX12_strike_0 8 rfl) (by decide) ?_
  refine ok_isub (dd TX12_strike_0 9 rfl) ?_
  refine ok_i2l (dd TX12_strike_0 10 rfl) ?_
  refine ok_callSI [.long p0.toInt64, .long (0 : Int64), .long ((v1 - (1 : Int32)).toInt64)] [] (C_X12_in Γ p0.toInt64 (0 : Int64) ((v1 - (1 : Int32)).toInt64)) cy_X12_in ml_RX12_97 sm_X12_in (by decide) (Nat.le_of_ble_eq_true rfl) rfl (dd TX12_strike_0 11 rfl) (fun v2 => ?_)
  refine ok_if_ne (tgt := 23) (dd TX12_strike_0 12 rfl) (by decide) ?_ ?_
  · refine ok_bipush (v := (7 : Int32)) (dd TX12_strike_0 15 rfl) (by decide) ?_
    refine ok_iload_n (dd TX12_strike_0 16 rfl) 1 rfl ?_
    refine ok_imul (dd TX12_strike_0 17 rfl) ?_
    refine ok_istore_n (lv' := [(2, .int ((7 : Int32) * p0)), (0, va_rf (some this)), (1, .int p0)]) (dd TX12_strike_0 18 rfl) (by decide) (by first | rfl | (simp only [List.filter, cat_rf]; rfl)) ?_
    refine ok_aload_n (dd TX12_strike_0 19 rfl) 1 rfl ?_
    refine ok_gP fl_RX12_60 rfl (dd TX12_strike_0 20 rfl) (fun v3 => ?_)
    refine ok_iload_n (dd TX12_strike_0 21 rfl) 0 rfl ?_
    refine ok_bipush (v := (6 : Int32)) (dd TX12_strike_0 22 rfl) (by decide) ?_
    refine ok_iadd (dd TX12_strike_0 23 rfl) ?_
    refine ok_lI (kd := 288) (by decide) rfl (dd TX12_strike_0 24 rfl) (fun v4 => ?_)
    refine ok_iconst (v := (1 : Int32)) (dd TX12_strike_0 25 rfl) (by decide) ?_
    refine ok_icmp_eq (tgt := 87) (dd TX12_strike_0 26 rfl) (by decide) ?_ ?_
    · refine ok_iconst (v := (0 : Int32)) (dd TX12_strike_1 15 rfl) (by decide) ?_
      exact ok_zreturn (dd TX12_strike_1 16 rfl) rfl
    · refine ok_aload_n (dd TX12_strike_0 27 rfl) 1 rfl ?_
      refine ok_gP fl_RX12_36 rfl (dd TX12_strike_0 28 rfl) (fun v5 => ?_)
      refine ok_aload_n (dd TX12_strike_0 29 rfl) 1 rfl ?_
      refine ok_gP fl_RX12_60 rfl (dd TX12_strike_0 30 rfl) (fun v6 => ?_)
      refine ok_iload_n (dd TX12_strike_0 31 rfl) 0 rfl ?_
      refine ok_iconst (v := (3 : Int32)) (dd TX12_strike_0 32 rfl) (by decide) ?_
      refine ok_iadd (dd TX12_strike_0 33 rfl) ?_
      refine ok_lI (kd := 288) (by decide) rfl (dd TX12_strike_0 34 rfl) (fun v7 => ?_)
      refine ok_lZ (kd := 226) (by decide) rfl (dd TX12_strike_0 35 rfl) (fun v8 => ?_)
      refine ok_if_ne (tgt := 87) (dd TX12_strike_0 36 rfl) (by decide) ?_ ?_
      · refine ok_iconst (v := (0 : Int32)) (dd TX12_strike_1 15 rfl) (by decide) ?_
        exact ok_zreturn (dd TX12_strike_1 16 rfl) rfl
      · refine ok_aload_n (dd TX12_strike_0 37 rfl) 1 rfl ?_
        refine ok_gP fl_RX12_36 rfl (dd TX12_strike_0 38 rfl) (fun v9 => ?_)
        refine ok_aload_n (dd TX12_strike_0 39 rfl) 1 rfl ?_
        refine ok_gP fl_RX12_60 rfl (dd TX12_strike_1 0 rfl) (fun v10 => ?_)
        refine ok_iload_n (dd TX12_strike_1 1 rfl) 0 rfl ?_
        refine ok_iconst (v := (4 : Int32)) (dd TX12_strike_1 2 rfl) (by decide) ?_
        refine ok_iadd (dd TX12_strike_1 3 rfl) ?_
        refine ok_lI (kd := 288) (by decide) rfl (dd TX12_strike_1 4 rfl) (fun v11 => ?_)
        refine ok_lZ (kd := 226) (by decide) rfl (dd TX12_strike_1 5 rfl) (fun v12 => ?_)
        refine ok_if_ne (tgt := 87) (dd TX12_strike_1 6 rfl) (by decide) ?_ ?_
        · refine ok_iconst (v := (0 : Int32)) (dd TX12_strike_1 15 rfl) (by decide) ?_
          exact ok_zreturn (dd TX12_strike_1 16 rfl) rfl
        · refine ok_aload_n (dd TX12_strike_1 7 rfl) 1 rfl ?_
          refine ok_gP fl_RX12_54 rfl (dd TX12_strike_1 8 rfl) (fun v13 => ?_)
          refine ok_aload_n (dd TX12_strike_1 9 rfl) 1 rfl ?_
          refine ok_gP fl_RX12_60 rfl (dd TX12_strike_1 10 rfl) (fun v14 => ?_)
          refine ok_iload_n (dd TX12_strike_1 11 rfl) 0 rfl ?_
          refine ok_lI (kd := 288) (by decide) rfl (dd TX12_strike_1 12 rfl) (fun v15 => ?_)
          refine ok_lZ (kd := 274) (by decide) rfl (dd TX12_strike_1 13 rfl) (fun v16 => ?_)
          refine ok_if_eq (tgt := 89) (dd TX12_strike_1 14 rfl) (by decide) ?_ ?_
          · refine ok_aload_n (dd TX12_strike_1 17 rfl) 1 rfl ?_
            refine ok_gP fl_RX12_60 rfl (dd TX12_strike_1 18 rfl) (fun v17 => ?_)
            refine ok_iload_n (dd TX12_strike_1 19 rfl) 0 rfl ?_
            refine ok_bipush (v := (6 : Int32)) (dd TX12_strike_1 20 rfl) (by decide) ?_
            refine ok_iadd (dd TX12_strike_1 21 rfl) ?_
            refine ok_iconst (v := (1 : Int32)) (dd TX12_strike_1 22 rfl) (by decide) ?_
            refine ok_stI (kd := 288) (by decide) rfl (dd TX12_strike_1 23 rfl) ?_
            refine ok_aload_n (dd TX12_strike_1 24 rfl) 1 rfl ?_
            refine ok_aload_n (dd TX12_strike_1 25 rfl) 1 rfl ?_
            refine ok_gP fl_RX12_60 rfl (dd TX12_strike_1 26 rfl) (fun v18 => ?_)
            refine ok_iload_n (dd TX12_strike_1 27 rfl) 0 rfl ?_
            refine ok_iconst (v := (4 : Int32)) (dd TX12_strike_1 28 rfl) (by decide) ?_
            refine ok_iadd (dd TX12_strike_1 29 rfl) ?_
            refine ok_lI (kd := 288) (by decide) rfl (dd TX12_strike_1 30 rfl) (fun v19 => ?_)
            refine ok_aload_n (dd TX12_strike_1 31 rfl) 1 rfl ?_
            refine ok_gP fl_RX12_60 rfl (dd TX12_strike_1 32 rfl) (fun v20 => ?_)
            refine ok_iload_n (dd TX12_strike_1 33 rfl) 0 rfl ?_
            refine ok_iconst (v := (3 : Int32)) (dd TX12_strike_1 34 rfl) (by decide) ?_
            refine ok_iadd (dd TX12_strike_1 35 rfl) ?_
            refine ok_lI (kd := 288) (by decide) rfl (dd TX12_strike_1 36 rfl) (fun v21 => ?_)
            refine ok_aload_n (dd TX12_strike_1 37 rfl) 1 rfl ?_
            refine ok_gP fl_RX12_60 rfl (dd TX12_strike_1 38 rfl) (fun v22 => ?_)
            refine ok_iload_n (dd TX12_strike_1 39 rfl) 0 rfl ?_
            refine ok_lI (kd := 288) (by decide) rfl (dd TX12_strike_2 0 rfl) (fun v23 => ?_)
            refine ok_aload_n (dd TX12_strike_2 1 rfl) 1 rfl ?_
            refine ok_gP fl_RX12_60 rfl (dd TX12_strike_2 2 rfl) (fun v24 => ?_)
            refine ok_iload_n (dd TX12_strike_2 3 rfl) 0 rfl ?_
            refine ok_iconst (v := (1 : Int32)) (dd TX12_strike_2 4 rfl) (by decide) ?_
            refine ok_iadd (dd TX12_strike_2 5 rfl) ?_
            refine ok_lI (kd := 288) (by decide) rfl (dd TX12_strike_2 6 rfl) (fun v25 => ?_)
            refine ok_aload_n (dd TX12_strike_2 7 rfl) 1 rfl ?_
            refine ok_gP fl_RX12_60 rfl (dd TX12_strike_2 8 rfl) (fun v26 => ?_)
            refine ok_iload_n (dd TX12_strike_2 9 rfl) 0 rfl ?_
            refine ok_iconst (v := (2 : Int32)) (dd TX12_strike_2 10 rfl) (by decide) ?_
            refine ok_iadd (dd TX12_strike_2 11 rfl) ?_
            refine ok_lI (kd := 288) (by decide) rfl (dd TX12_strike_2 12 rfl) (fun v27 => ?_)
            refine ok_callVV (cn := 12) [.int v19, .int v21, .int v23, .int v25, .int v27] [] (fun b28 => C_X12_move Γ b28 v19 v21 v23 v25 v27) rfl cy_X12_move ml_RX12_281 im_X12_move se_X12_move (by decide) (Nat.le_of_ble_eq_true rfl) rfl (dd TX12_strike_2 13 rfl) ?_
            refine ok_iconst (v := (1 : Int32)) (dd TX12_strike_2 14 rfl) (by decide) ?_
            exact ok_zreturn (dd TX12_strike_2 15 rfl) rfl
          · refine ok_iconst (v := (0 : Int32)) (dd TX12_strike_1 15 rfl) (by decide) ?_
            exact ok_zreturn (dd TX12_strike_1 16 rfl) rfl
  · refine ok_iconst (v := (0 : Int32)) (dd TX12_strike_0 13 rfl) (by decide) ?_
    exact ok_zreturn (dd TX12_strike_0 14 rfl) rfl
