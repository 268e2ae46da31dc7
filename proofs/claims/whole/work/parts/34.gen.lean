def F_X12_equityOf_L10 : Nat → Nat → Int32 → Int64 → Int32 → M Int64
  | 0 => fun _ _ _ _ => fl
  | n + 1 => fun this x1 x2 x4 => if (6 : Int32) ≤ x4 then rt x2 else bn (gP 12 14 (some this)) fun v3 => bn (lI 232 v3 (((6 : Int32) * x1) + x4)) fun v4 => bn (gP 12 47 (some this)) fun v5 => bn (lI 360 v5 x4) fun v6 => bn (gP 12 15 (some this)) fun v7 => bn (lL 241 v7 (((6 : Int32) * x1) + x4)) fun v8 => F_X12_equityOf_L10 n this x1 (x2 + ((v4.toInt64 * v6.toInt64) - v8)) (x4 + (1 : Int32))
set_option maxRecDepth 100000 in
theorem O_X12_equityOf_L10 (Γ : Gam) (n : Nat) : ∀ (this : Nat) (x1 : Int32) (x2 : Int64) (x4 : Int32), Ok Γ mX12_equityOf 0 (qo Γ vL) 10 [(0, va_rf (some this)), (1, .int x1), (2, .long x2), (4, .int x4)] [] (F_X12_equityOf_L10 n this x1 x2 x4) := by
  induction n with
  | zero => intro this x1 x2 x4; exact ok_fl
  | succ n ih =>
    intro this x1 x2 x4
    rw [F_X12_equityOf_L10]
    refine ok_iload (dd TX12_equityOf_0 7 rfl) 3 rfl ?_
    refine ok_bipush (v := (6 : Int32)) (dd TX12_equityOf_0 8 rfl) (by decide) ?_
    refine ok_icmp_ge (tgt := 61) (dd TX12_equityOf_0 9 rfl) (by decide) ?_ ?_
    · refine ok_lload_n (dd TX12_equityOf_0 39 rfl) 2 rfl ?_
      exact ok_lreturn (dd TX12_equityOf_1 0 rfl) rfl
    · refine ok_lload_n (dd TX12_equityOf_0 10 rfl) 2 rfl ?_
      refine ok_aload_n (dd TX12_equityOf_0 11 rfl) 0 rfl ?_
      refine ok_gP fl_RX12_39 rfl (dd TX12_equityOf_0 12 rfl) (fun v3 => ?_)
      refine ok_bipush (v := (6 : Int32)) (dd TX12_equityOf_0 13 rfl) (by decide) ?_
      refine ok_iload_n (dd TX12_equityOf_0 14 rfl) 1 rfl ?_
      refine ok_imul (dd TX12_equityOf_0 15 rfl) ?_
      refine ok_iload (dd TX12_equityOf_0 16 rfl) 3 rfl ?_
      refine ok_iadd (dd TX12_equityOf_0 17 rfl) ?_
      refine ok_lI (kd := 232) (by decide) rfl (dd TX12_equityOf_0 18 rfl) (fun v4 => ?_)
      refine ok_i2l (dd TX12_equityOf_0 19 rfl) ?_
      refine ok_aload_n (dd TX12_equityOf_0 20 rfl) 0 rfl ?_
      refine ok_gP fl_RX12_87 rfl (dd TX12_equityOf_0 21 rfl) (fun v5 => ?_)
      refine ok_iload (dd TX12_equityOf_0 22 rfl) 3 rfl ?_
      refine ok_lI (kd := 360) (by decide) rfl (dd TX12_equityOf_0 23 rfl) (fun v6 => ?_)
      refine ok_i2l (dd TX12_equityOf_0 24 rfl) ?_
      refine ok_lmul (dd TX12_equityOf_0 25 rfl) ?_
      refine ok_aload_n (dd TX12_equityOf_0 26 rfl) 0 rfl ?_
      refine ok_gP fl_RX12_42 rfl (dd TX12_equityOf_0 27 rfl) (fun v7 => ?_)
      refine ok_bipush (v := (6 : Int32)) (dd TX12_equityOf_0 28 rfl) (by decide) ?_
      refine ok_iload_n (dd TX12_equityOf_0 29 rfl) 1 rfl ?_
      refine ok_imul (dd TX12_equityOf_0 30 rfl) ?_
      refine ok_iload (dd TX12_equityOf_0 31 rfl) 3 rfl ?_
      refine ok_iadd (dd TX12_equityOf_0 32 rfl) ?_
      refine ok_lL (kd := 241) (by decide) rfl (dd TX12_equityOf_0 33 rfl) (fun v8 => ?_)
      refine ok_lsub (dd TX12_equityOf_0 34 rfl) ?_
      refine ok_ladd (dd TX12_equityOf_0 35 rfl) ?_
      refine ok_lstore_n (lv' := [(2, .long (x2 + ((v4.toInt64 * v6.toInt64) - v8))), (0, va_rf (some this)), (1, .int x1), (4, .int x4)]) (dd TX12_equityOf_0 36 rfl) (by decide) (by first | rfl | (simp only [List.filter, cat_rf]; rfl)) ?_
      refine ok_iinc (lv' := [(4, .int (x4 + (1 : Int32))), (2, .long (x2 + ((v4.toInt64 * v6.toInt64) - v8))), (0, va_rf (some this)), (1, .int x1)]) (dd TX12_equityOf_0 37 rfl) 3 rfl (congrArg (fun q : Int32 => x4 + q) (show Int32.ofInt (1) = (1 : Int32) from by decide)) (by decide) (by first | rfl | (simp only [List.filter, cat_rf]; rfl)) ?_
      refine ok_goto (tgt := 10) (dd TX12_equityOf_0 38 rfl) (by decide) ?_
      refine ok_sub [2, 3, 1, 0] rfl ?_
      exact ih this x1 (x2 + ((v4.toInt64 * v6.toInt64) - v8)) (x4 + (1 : Int32))
def F_X12_equityOf (this : Nat) (p0 : Int32) : M Int64 := bn (gP 12 11 (some this)) fun v1 => bn (lL 209 v1 p0) fun v2 => F_X12_equityOf_L10 FU this p0 v2 (0 : Int32)
set_option maxRecDepth 100000 in
theorem C_X12_equityOf (Γ : Gam) (this : Nat) (p0 : Int32) : Ct Γ mX12_equityOf 0 vL [va_rf (some this), .int p0] (F_X12_equityOf this p0) := by
  refine ct_in (lv := [(0, va_rf (some this)), (1, .int p0)]) (by decide) (by first | rfl | (simp only [lv_args, cat_rf]; rfl)) (by first | exact Nat.le_of_ble_eq_true rfl | (rw [lg_len]; simp only [List.map_cons, List.map_nil, cat_rf]; exact Nat.le_of_ble_eq_true rfl)) ?_
  unfold F_X12_equityOf
  refine ok_aload_n (dd TX12_equityOf_0 0 rfl) 0 rfl ?_
  refine ok_gP fl_RX12_28 rfl (dd TX12_equityOf_0 1 rfl) (fun v1 => ?_)
  refine ok_iload_n (dd TX12_equityOf_0 2 rfl) 1 rfl ?_
  refine ok_lL (kd := 209) (by decide) rfl (dd TX12_equityOf_0 3 rfl) (fun v2 => ?_)
  refine ok_lstore_n (lv' := [(2, .long v2), (0, va_rf (some this)), (1, .int p0)]) (dd TX12_equityOf_0 4 rfl) (by decide) (by first | rfl | (simp only [List.filter, cat_rf]; rfl)) ?_
  refine ok_iconst (v := (0 : Int32)) (dd TX12_equityOf_0 5 rfl) (by decide) ?_
  refine ok_istore (lv' := [(4, .int (0 : Int32)), (2, .long v2), (0, va_rf (some this)), (1, .int p0)]) (dd TX12_equityOf_0 6 rfl) (by decide) (by first | rfl | (simp only [List.filter, cat_rf]; rfl)) ?_
  refine ok_sub [2, 3, 1, 0] rfl ?_
  exact O_X12_equityOf_L10 Γ FU this p0 v2 (0 : Int32)
def F_X12_latestPrices_L31 (k2 : Nat → Int32 → M Unit) (this : Nat) (x1 : Int32) (y0 : Int32) (y1 : Int32) (y2 : Option Nat) : M Unit := bn (stI 360 y2 y1 y0) fun _ => k2 this (x1 + (1 : Int32))
set_option maxRecDepth 100000 in
theorem O_X12_latestPrices_L31 (Γ : Gam) (k2 : Nat → Int32 → M Unit) (hk2 : ∀ (z0 : Nat) (z1 : Int32), Ok Γ mX12_latestPrices 2 (qo Γ vV) 2 [(0, va_rf (some z0)), (1, .int z1)] [] (k2 z0 z1)) (this : Nat) (x1 : Int32) (y0 : Int32) (y1 : Int32) (y2 : Option Nat) : Ok Γ mX12_latestPrices 2 (qo Γ vV) 31 [(0, va_rf (some this)), (1, .int x1)] [.int y0, .int y1, va_rf y2] (F_X12_latestPrices_L31 k2 this x1 y0 y1 y2) := by
  unfold F_X12_latestPrices_L31
  refine ok_stI (kd := 360) (by decide) rfl (dd TX12_latestPrices_0 18 rfl) ?_
  refine ok_iinc (lv' := [(1, .int (x1 + (1 : Int32))), (0, va_rf (some this))]) (dd TX12_latestPrices_0 19 rfl) 1 rfl (congrArg (fun q : Int32 => x1 + q) (show Int32.ofInt (1) = (1 : Int32) from by decide)) (by decide) (by first | rfl | (simp only [List.filter, cat_rf]; rfl)) ?_
  refine ok_goto (tgt := 2) (dd TX12_latestPrices_0 20 rfl) (by decide) ?_
  refine ok_sub [1, 0] rfl ?_
  exact hk2 this (x1 + (1 : Int32))
def F_X12_latestPrices_L2 : Nat → Nat → Int32 → M Unit
  | 0 => fun _ _ => fl
  | n + 1 => fun this x1 => if (6 : Int32) ≤ x1 then rt () else bn (gP 12 47 (some this)) fun v1 => bn (pRc 12 (some this)) fun b2 => bn (F_X12_latest b2 x1) fun v3 => if ¬ v3 = (-1 : Int32) then bn (pRc 12 (some this)) fun b4 => bn (F_X12_latest b4 x1) fun v5 => F_X12_latestPrices_L31 (F_X12_latestPrices_L2 n) this x1 v5 x1 v1 else F_X12_latestPrices_L31 (F_X12_latestPrices_L2 n) this x1 (0 : Int32) x1 v1
set_option maxRecDepth 100000 in
theorem O_X12_latestPrices_L2 (Γ : Gam) (n : Nat) : ∀ (this : Nat) (x1 : Int32), Ok Γ mX12_latestPrices 2 (qo Γ vV) 2 [(0, va_rf (some this)), (1, .int x1)] [] (F_X12_latestPrices_L2 n this x1) := by
  induction n with
  | zero => intro this x1; exact ok_fl
  | succ n ih =>
    intro this x1
    rw [F_X12_latestPrices_L2]
    refine ok_iload_n (dd TX12_latestPrices_0 2 rfl) 1 rfl ?_
    refine ok_bipush (v := (6 : Int32)) (dd TX12_latestPrices_0 3 rfl) (by decide) ?_
    refine ok_icmp_ge (tgt := 38) (dd TX12_latestPrices_0 4 rfl) (by decide) ?_ ?_
    · exact ok_return (dd TX12_latestPrices_0 21 rfl) rfl
    · refine ok_aload_n (dd TX12_latestPrices_0 5 rfl) 0 rfl ?_
      refine ok_gP fl_RX12_87 rfl (dd TX12_latestPrices_0 6 rfl) (fun v1 => ?_)
      refine ok_iload_n (dd TX12_latestPrices_0 7 rfl) 1 rfl ?_
      refine ok_aload_n (dd TX12_latestPrices_0 8 rfl) 0 rfl ?_
      refine ok_iload_n (dd TX12_latestPrices_0 9 rfl) 1 rfl ?_
      refine ok_callVI (cn := 12) [.int x1] [.int x1, va_rf v1] (fun b2 => C_X12_latest Γ b2 x1) rfl cy_X12_latest ml_RX12_262 im_X12_latest se_X12_latest (by decide) (Nat.le_of_ble_eq_true rfl) rfl (dd TX12_latestPrices_0 10 rfl) (fun v3 => ?_)
      refine ok_iconst (v := (-1 : Int32)) (dd TX12_latestPrices_0 11 rfl) (by decide) ?_
      refine ok_icmp_ne (tgt := 26) (dd TX12_latestPrices_0 12 rfl) (by decide) ?_ ?_
      · refine ok_aload_n (dd TX12_latestPrices_0 15 rfl) 0 rfl ?_
        refine ok_iload_n (dd TX12_latestPrices_0 16 rfl) 1 rfl ?_
        refine ok_callVI (cn := 12) [.int x1] [.int x1, va_rf v1] (fun b4 => C_X12_latest Γ b4 x1) rfl cy_X12_latest ml_RX12_262 im_X12_latest se_X12_latest (by decide) (Nat.le_of_ble_eq_true rfl) rfl (dd TX12_latestPrices_0 17 rfl) (fun v5 => ?_)
        exact O_X12_latestPrices_L31 Γ (F_X12_latestPrices_L2 n) ih this x1 v5 x1 v1
      · refine ok_iconst (v := (0 : Int32)) (dd TX12_latestPrices_0 13 rfl) (by decide) ?_
        refine ok_goto (tgt := 31) (dd TX12_latestPrices_0 14 rfl) (by decide) ?_
        exact O_X12_latestPrices_L31 Γ (F_X12_latestPrices_L2 n) ih this x1 (0 : Int32) x1 v1
def F_X12_latestPrices (this : Nat) : M Unit := F_X12_latestPrices_L2 FU this (0 : Int32)
set_option maxRecDepth 100000 in
theorem C_X12_latestPrices (Γ : Gam) (this : Nat) : Ct Γ mX12_latestPrices 2 vV [va_rf (some this)] (F_X12_latestPrices this) := by
  refine ct_in (lv := [(0, va_rf (some this))]) (by decide) (by first | rfl | (simp only [lv_args, cat_rf]; rfl)) (by first | exact Nat.le_of_ble_eq_true rfl | (rw [lg_len]; simp only [List.map_cons, List.map_nil, cat_rf]; exact Nat.le_of_ble_eq_true rfl)) ?_
  unfold F_X12_latestPrices
  refine ok_iconst (v := (0 : Int32)) (dd TX12_latestPrices_0 0 rfl) (by decide) ?_
  refine ok_istore_n (lv' := [(1, .int (0 : Int32)), (0, va_rf (some this))]) (dd TX12_latestPrices_0 1 rfl) (by decide) (by first | rfl | (simp only [List.filter, cat_rf]; rfl)) ?_
  refine ok_sub [1, 0] rfl ?_
  exact O_X12_latestPrices_L2 Γ FU this (0 : Int32)
def F_X12_fail_L162 (k16 : Nat → Int32 → Int32 → M Unit) (k32 : Nat → Int32 → Int32 → Int32 → Int32 → M Unit) (this : Nat) (x1 : Int32) (x2 : Int32) (x3 : Int32) (x4 : Int32) (y0 : Int32) (y1 : Int32) (y2 : Option Nat) : M Unit := bn (gP 12 47 (some this)) fun v14 => bn (lI 360 v14 x2) fun v15 => bn (pRc 12 y2) fun b16 => bn (F_X12_move b16 y1 y0 x2 v15 (1 : Int32)) fun _ => k32 this x1 x2 x3 x4
set_option maxRecDepth 100000 in
theorem O_X12_fail_L162 (Γ : Gam) (k16 : Nat → Int32 → Int32 → M Unit) (hk16 : ∀ (z0 : Nat) (z1 : Int32) (z2 : Int32), Ok Γ mX12_fail 1 (qo Γ vV) 16 [(0, va_rf (some z0)), (1, .int z1), (2, .int z2)] [] (k16 z0 z1 z2)) (k32 : Nat → Int32 → Int32 → Int32 → Int32 → M Unit) (hk32 : ∀ (z0 : Nat) (z1 : Int32) (z2 : Int32) (z3 : Int32) (z4 : Int32), Ok Γ mX12_fail 1 (qo Γ vV) 32 [(0, va_rf (some z0)), (1, .int z1), (2, .int z2), (3, .int z3), (4, .int z4)] [] (k32 z0 z1 z2 z3 z4)) (this : Nat) (x1 : Int32) (x2 : Int32) (x3 : Int32) (x4 : Int32) (y0 : Int32) (y1 : Int32) (y2 : Option Nat) : Ok Γ mX12_fail 1 (qo Γ vV) 162 [(0, va_rf (some this)), (1, .int x1), (2, .int x2), (3, .int x3), (4, .int x4)] [.int y0, .int y1, va_rf y2] (F_X12_fail_L162 k16 k32 this x1 x2 x3 x4 y0 y1 y2) := by
  unfold F_X12_fail_L162
  refine ok_iload_n (dd TX12_fail_2 13 rfl) 2 rfl ?_
  refine ok_aload_n (dd TX12_fail_2 14 rfl) 0 rfl ?_
  refine ok_gP fl_RX12_87 rfl (dd TX12_fail_2 15 rfl) (fun v14 => ?_)
  refine ok_iload_n (dd TX12_fail_2 16 rfl) 2 rfl ?_
  refine ok_lI (kd := 360) (by decide) rfl (dd TX12_fail_2 17 rfl) (fun v15 => ?_)
  refine ok_iconst (v := (1 : Int32)) (dd TX12_fail_2 18 rfl) (by decide) ?_
  refine ok_callVV (cn := 12) [.int y1, .int y0, .int x2, .int v15, .int (1 : Int32)] [] (fun b16 => C_X12_move Γ b16 y1 y0 x2 v15 (1 : Int32)) rfl cy_X12_move ml_RX12_281 im_X12_move se_X12_move (by decide) (Nat.le_of_ble_eq_true rfl) rfl (dd TX12_fail_2 19 rfl) ?_
  refine ok_goto (tgt := 32) (dd TX12_fail_2 20 rfl) (by decide) ?_
  exact hk32 this x1 x2 x3 x4
def F_X12_fail_L151 (k16 : Nat → Int32 → Int32 → M Unit) (k32 : Nat → Int32 → Int32 → Int32 → Int32 → M Unit) (this : Nat) (x1 : Int32) (x2 : Int32) (x3 : Int32) (x4 : Int32) (x5 : Int32) (x6 : Int32) (y0 : Int32) (y1 : Option Nat) : M Unit := if x5 = 0 then F_X12_fail_L162 k16 k32 this x1 x2 x3 x4 x6 y0 y1 else F_X12_fail_L162 k16 k32 this x1 x2 x3 x4 x1 y0 y1
set_option maxRecDepth 100000 in
theorem O_X12_fail_L151 (Γ : Gam) (k16 : Nat → Int32 → Int32 → M Unit) (hk16 : ∀ (z0 : Nat) (z1 : Int32) (z2 : Int32), Ok Γ mX12_fail 1 (qo Γ vV) 16 [(0, va_rf (some z0)), (1, .int z1), (2, .int z2)] [] (k16 z0 z1 z2)) (k32 : Nat → Int32 → Int32 → Int32 → Int32 → M Unit) (hk32 : ∀ (z0 : Nat) (z1 : Int32) (z2 : Int32) (z3 : Int32) (z4 : Int32), Ok Γ mX12_fail 1 (qo Γ vV) 32 [(0, va_rf (some z0)), (1, .int z1), (2, .int z2), (3, .int z3), (4, .int z4)] [] (k32 z0 z1 z2 z3 z4)) (this : Nat) (x1 : Int32) (x2 : Int32) (x3 : Int32) (x4 : Int32) (x5 : Int32) (x6 : Int32) (y0 : Int32) (y1 : Option Nat) : Ok Γ mX12_fail 1 (qo Γ vV) 151 [(0, va_rf (some this)), (1, .int x1), (2, .int x2), (3, .int x3), (4, .int x4), (5, .int x5), (6, .int x6)] [.int y0, va_rf y1] (F_X12_fail_L151 k16 k32 this x1 x2 x3 x4 x5 x6 y0 y1) := by
  unfold F_X12_fail_L151
  refine ok_iload (dd TX12_fail_2 8 rfl) 5 rfl ?_
  refine ok_if_eq (tgt := 160) (dd TX12_fail_2 9 rfl) (by decide) ?_ ?_
  · refine ok_iload (dd TX12_fail_2 12 rfl) 6 rfl ?_
    refine ok_sub [0, 1, 2, 3, 4] rfl ?_
    exact O_X12_fail_L162 Γ k16 hk16 k32 hk32 this x1 x2 x3 x4 x6 y0 y1
  · refine ok_iload_n (dd TX12_fail_2 10 rfl) 1 rfl ?_
    refine ok_goto (tgt := 162) (dd TX12_fail_2 11 rfl) (by decide) ?_
    refine ok_sub [0, 1, 2, 3, 4] rfl ?_
    exact O_X12_fail_L162 Γ k16 hk16 k32 hk32 this x1 x2 x3 x4 x1 y0 y1
def F_X12_fail_L136 (k16 : Nat → Int32 → Int32 → M Unit) (k32 : Nat → Int32 → Int32 → Int32 → Int32 → M Unit) (this : Nat) (x1 : Int32) (x2 : Int32) (x4 : Int32) (x5 : Int32) (x6 : Int32) : M Unit := if x5 = 0 then F_X12_fail_L151 k16 k32 this x1 x2 x6 x4 x5 x6 x1 (some this) else F_X12_fail_L151 k16 k32 this x1 x2 x6 x4 x5 x6 x6 (some this)
set_option maxRecDepth 100000 in
theorem O_X12_fail_L136 (Γ : Gam) (k16 : Nat → Int32 → Int32 → M Unit) (hk16 : ∀ (z0 : Nat) (z1 : Int32) (z2 : Int32), Ok Γ mX12_fail 1 (qo Γ vV) 16 [(0, va_rf (some z0)), (1, .int z1), (2, .int z2)] [] (k16 z0 z1 z2)) (k32 : Nat → Int32 → Int32 → Int32 → Int32 → M Unit) (hk32 : ∀ (z0 : Nat) (z1 : Int32) (z2 : Int32) (z3 : Int32) (z4 : Int32), Ok Γ mX12_fail 1 (qo Γ vV) 32 [(0, va_rf (some z0)), (1, .int z1), (2, .int z2), (3, .int z3), (4, .int z4)] [] (k32 z0 z1 z2 z3 z4)) (this : Nat) (x1 : Int32) (x2 : Int32) (x4 : Int32) (x5 : Int32) (x6 : Int32) : Ok Γ mX12_fail 1 (qo Γ vV) 136 [(0, va_rf (some this)), (1, .int x1), (2, .int x2), (4, .int x4), (5, .int x5), (6, .int x6)] [] (F_X12_fail_L136 k16 k32 this x1 x2 x4 x5 x6) := by
  unfold F_X12_fail_L136
  refine ok_iload (dd TX12_fail_2 0 rfl) 5 rfl ?_
  refine ok_istore_n (lv' := [(3, .int x6), (0, va_rf (some this)), (1, .int x1), (2, .int x2), (4, .int x4), (5, .int x5), (6, .int x6)]) (dd TX12_fail_2 1 rfl) (by decide) (by first | rfl | (simp only [List.filter, cat_rf]; rfl)) ?_
  refine ok_aload_n (dd TX12_fail_2 2 rfl) 1 rfl ?_
  refine ok_iload (dd TX12_fail_2 3 rfl) 5 rfl ?_
  refine ok_if_eq (tgt := 150) (dd TX12_fail_2 4 rfl) (by decide) ?_ ?_
  · refine ok_iload_n (dd TX12_fail_2 7 rfl) 2 rfl ?_
    refine ok_sub [1, 2, 3, 0, 4, 5, 6] rfl ?_
    exact O_X12_fail_L151 Γ k16 hk16 k32 hk32 this x1 x2 x6 x4 x5 x6 x1 (some this)
  · refine ok_iload (dd TX12_fail_2 5 rfl) 6 rfl ?_
    refine ok_goto (tgt := 151) (dd TX12_fail_2 6 rfl) (by decide) ?_
    refine ok_sub [1, 2, 3, 0, 4, 5, 6] rfl ?_
    exact O_X12_fail_L151 Γ k16 hk16 k32 hk32 this x1 x2 x6 x4 x5 x6 x6 (some this)
def F_X12_fail_L119 (k16 : Nat → Int32 → Int32 → M Unit) (k32 : Nat → Int32 → Int32 → Int32 → Int32 → M Unit) (k72 : Nat → Int32 → Int32 → Int32 → Int32 → Int32 → Int32 → M Unit) (this : Nat) (x1 : Int32) (x2 : Int32) (x4 : Int32) (x5 : Int32) (x6 : Int32) (x7 : Int32) : M Unit := bn (gI 12 10 (some this)) fun v13 => bn (rmI (x6 + (1 : Int32)) v13) fun _ => k72 this x1 x2 x4 x5 ((x6 + (1 : Int32)) - (x6 + (1 : Int32)) / v13 * v13) (x7 + (1 : Int32))
set_option maxRecDepth 100000 in
theorem O_X12_fail_L119 (Γ : Gam) (k16 : Nat → Int32 → Int32 → M Unit) (hk16 : ∀ (z0 : Nat) (z1 : Int32) (z2 : Int32), Ok Γ mX12_fail 1 (qo Γ vV) 16 [(0, va_rf (some z0)), (1, .int z1), (2, .int z2)] [] (k16 z0 z1 z2)) (k32 : Nat → Int32 → Int32 → Int32 → Int32 → M Unit) (hk32 : ∀ (z0 : Nat) (z1 : Int32) (z2 : Int32) (z3 : Int32) (z4 : Int32), Ok Γ mX12_fail 1 (qo Γ vV) 32 [(0, va_rf (some z0)), (1, .int z1), (2, .int z2), (3, .int z3), (4, .int z4)] [] (k32 z0 z1 z2 z3 z4)) (k72 : Nat → Int32 → Int32 → Int32 → Int32 → Int32 → Int32 → M Unit) (hk72 : ∀ (z0 : Nat) (z1 : Int32) (z2 : Int32) (z4 : Int32) (z5 : Int32) (z6 : Int32) (z7 : Int32), Ok Γ mX12_fail 1 (qo Γ vV) 72 [(0, va_rf (some z0)), (1, .int z1), (2, .int z2), (4, .int z4), (5, .int z5), (6, .int z6), (7, .int z7)] [] (k72 z0 z1 z2 z4 z5 z6 z7)) (this : Nat) (x1 : Int32) (x2 : Int32) (x4 : Int32) (x5 : Int32) (x6 : Int32) (x7 : Int32) : Ok Γ mX12_fail 1 (qo Γ vV) 119 [(0, va_rf (some this)), (1, .int x1), (2, .int x2), (4, .int x4), (5, .int x5), (6, .int x6), (7, .int x7)] [] (F_X12_fail_L119 k16 k32 k72 this x1 x2 x4 x5 x6 x7) := by
  unfold F_X12_fail_L119
  refine ok_iload (dd TX12_fail_1 31 rfl) 5 rfl ?_
  refine ok_iconst (v := (1 : Int32)) (dd TX12_fail_1 32 rfl) (by decide) ?_
  refine ok_iadd (dd TX12_fail_1 33 rfl) ?_
  refine ok_aload_n (dd TX12_fail_1 34 rfl) 0 rfl ?_
  refine ok_gI fl_RX12_94 rfl (dd TX12_fail_1 35 rfl) (fun v13 => ?_)
  refine ok_irem (dd TX12_fail_1 36 rfl) ?_
  refine ok_istore (lv' := [(6, .int ((x6 + (1 : Int32)) - (x6 + (1 : Int32)) / v13 * v13)), (0, va_rf (some this)), (1, .int x1), (2, .int x2), (4, .int x4), (5, .int x5), (7, .int x7)]) (dd TX12_fail_1 37 rfl) (by decide) (by first | rfl | (simp only [List.filter, cat_rf]; rfl)) ?_
  refine ok_iinc (lv' := [(7, .int (x7 + (1 : Int32))), (6, .int ((x6 + (1 : Int32)) - (x6 + (1 : Int32)) / v13 * v13)), (0, va_rf (some this)), (1, .int x1), (2, .int x2), (4, .int x4), (5, .int x5)]) (dd TX12_fail_1 38 rfl) 6 rfl (congrArg (fun q : Int32 => x7 + q) (show Int32.ofInt (1) = (1 : Int32) from by decide)) (by decide) (by first | rfl | (simp only [List.filter, cat_rf]; rfl)) ?_
  refine ok_goto (tgt := 72) (dd TX12_fail_1 39 rfl) (by decide) ?_
  refine ok_sub [2, 3, 4, 5, 6, 1, 0] rfl ?_
  exact hk72 this x1 x2 x4 x5 ((x6 + (1 : Int32)) - (x6 + (1 : Int32)) / v13 * v13) (x7 + (1 : Int32))
def F_X12_fail_L72 (k16 : Nat → Int32 → Int32 → M Unit) (k32 : Nat → Int32 → Int32 → Int32 → Int32 → M Unit) : Nat → Nat → Int32 → Int32 → Int32 → Int32 → Int32 → Int32 → M Unit
  | 0 => fun _ _ _ _ _ _ _ => fl
  | n + 1 => fun this x1 x2 x4 x5 x6 x7 => bn (gI 12 10 (some this)) fun v8 => if v8 ≤ x7 then F_X12_fail_L136 k16 k32 this x1 x2 x4 x5 x6 else if x5 = 0 then bn (gP 12 14 (some this)) fun v9 => bn (lI 232 v9 (((6 : Int32) * x6) + x2)) fun v10 => if 0 < v10 then F_X12_fail_L136 k16 k32 this x1 x2 x4 x5 x6 else F_X12_fail_L119 k16 k32 (F_X12_fail_L72 k16 k32 n) this x1 x2 x4 x5 x6 x7 else bn (gP 12 14 (some this)) fun v11 => bn (lI 232 v11 (((6 : Int32) * x6) + x2)) fun v12 => if v12 < 0 then F_X12_fail_L136 k16 k32 this x1 x2 x4 x5 x6 else F_X12_fail_L119 k16 k32 (F_X12_fail_L72 k16 k32 n) this x1 x2 x4 x5 x6 x7
set_option maxRecDepth 100000 in
theorem O_X12_fail_L72 (Γ : Gam) (k16 : Nat → Int32 → Int32 → M Unit) (hk16 : ∀ (z0 : Nat) (z1 : Int32) (z2 : Int32), Ok Γ mX12_fail 1 (qo Γ vV) 16 [(0, va_rf (some z0)), (1, .int z1), (2, .int z2)] [] (k16 z0 z1 z2)) (k32 : Nat → Int32 → Int32 → Int32 → Int32 → M Unit) (hk32 : ∀ (z0 : Nat) (z1 : Int32) (z2 : Int32) (z3 : Int32) (z4 : Int32), Ok Γ mX12_fail 1 (qo Γ vV) 32 [(0, va_rf (some z0)), (1, .int z1), (2, .int z2), (3, .int z3), (4, .int z4)] [] (k32 z0 z1 z2 z3 z4)) (n : Nat) : ∀ (this : Nat) (x1 : Int32) (x2 : Int32) (x4 : Int32) (x5 : Int32) (x6 : Int32) (x7 : Int32), Ok Γ mX12_fail 1 (qo Γ vV) 72 [(0, va_rf (some this)), (1, .int x1), (2, .int x2), (4, .int x4), (5, .int x5), (6, .int x6), (7, .int x7)] [] (F_X12_fail_L72 k16 k32 n this x1 x2 x4 x5 x6 x7) := by
  induction n with
  | zero => intro this x1 x2 x4 x5 x6 x7; exact ok_fl
  | succ n ih =>
    intro this x1 x2 x4 x5 x6 x7
    rw [F_X12_fail_L72]
    refine ok_iload (dd TX12_fail_1 6 rfl) 6 rfl ?_
    refine ok_aload_n (dd TX12_fail_1 7 rfl) 0 rfl ?_
    refine ok_gI fl_RX12_94 rfl (dd TX12_fail_1 8 rfl) (fun v8 => ?_)
    refine ok_icmp_ge (tgt := 136) (dd TX12_fail_1 9 rfl) (by decide) ?_ ?_
    · refine ok_sub [0, 1, 2, 3, 4, 5] rfl ?_
      exact O_X12_fail_L136 Γ k16 hk16 k32 hk32 this x1 x2 x4 x5 x6
    · refine ok_iload (dd TX12_fail_1 10 rfl) 4 rfl ?_
      refine ok_if_eq (tgt := 104) (dd TX12_fail_1 11 rfl) (by decide) ?_ ?_
      · refine ok_aload_n (dd TX12_fail_1 22 rfl) 0 rfl ?_
        refine ok_gP fl_RX12_39 rfl (dd TX12_fail_1 23 rfl) (fun v9 => ?_)
        refine ok_bipush (v := (6 : Int32)) (dd TX12_fail_1 24 rfl) (by decide) ?_
        refine ok_iload (dd TX12_fail_1 25 rfl) 5 rfl ?_
        refine ok_imul (dd TX12_fail_1 26 rfl) ?_
        refine ok_iload_n (dd TX12_fail_1 27 rfl) 2 rfl ?_
        refine ok_iadd (dd TX12_fail_1 28 rfl) ?_
        refine ok_lI (kd := 232) (by decide) rfl (dd TX12_fail_1 29 rfl) (fun v10 => ?_)
        refine ok_if_gt (tgt := 136) (dd TX12_fail_1 30 rfl) (by decide) ?_ ?_
        · refine ok_sub [0, 1, 2, 3, 4, 5] rfl ?_
          exact O_X12_fail_L136 Γ k16 hk16 k32 hk32 this x1 x2 x4 x5 x6
        · exact O_X12_fail_L119 Γ k16 hk16 k32 hk32 (F_X12_fail_L72 k16 k32 n) ih this x1 x2 x4 x5 x6 x7
      · refine ok_aload_n (dd TX12_fail_1 12 rfl) 0 rfl ?_
        refine ok_gP fl_RX12_39 rfl (dd TX12_fail_1 13 rfl) (fun v11 => ?_)
        refine ok_bipush (v := (6 : Int32)) (dd TX12_fail_1 14 rfl) (by decide) ?_
        refine ok_iload (dd TX12_fail_1 15 rfl) 5 rfl ?_
        refine ok_imul (dd TX12_fail_1 16 rfl) ?_
        refine ok_iload_n (dd TX12_fail_1 17 rfl) 2 rfl ?_
        refine ok_iadd (dd TX12_fail_1 18 rfl) ?_
        refine ok_lI (kd := 232) (by decide) rfl (dd TX12_fail_1 19 rfl) (fun v12 => ?_)
        refine ok_if_lt (tgt := 136) (dd TX12_fail_1 20 rfl) (by decide) ?_ ?_
        · refine ok_sub [0, 1, 2, 3, 4, 5] rfl ?_
          exact O_X12_fail_L136 Γ k16 hk16 k32 hk32 this x1 x2 x4 x5 x6
        · refine ok_goto (tgt := 119) (dd TX12_fail_1 21 rfl) (by decide) ?_
          exact O_X12_fail_L119 Γ k16 hk16 k32 hk32 (F_X12_fail_L72 k16 k32 n) ih this x1 x2 x4 x5 x6 x7
def F_X12_fail_L57 (k16 : Nat → Int32 → Int32 → M Unit) (k32 : Nat → Int32 → Int32 → Int32 → Int32 → M Unit) (this : Nat) (x1 : Int32) (x2 : Int32) (x3 : Int32) (x4 : Int32) (y0 : Int32) : M Unit := bn (gI 12 10 (some this)) fun v7 => bn (rmI (x3 + (1 : Int32)) v7) fun _ => F_X12_fail_L72 k16 k32 FU this x1 x2 x4 y0 ((x3 + (1 : Int32)) - (x3 + (1 : Int32)) / v7 * v7) (0 : Int32)
set_option maxRecDepth 100000 in
theorem O_X12_fail_L57 (Γ : Gam) (k16 : Nat → Int32 → Int32 → M Unit) (hk16 : ∀ (z0 : Nat) (z1 : Int32) (z2 : Int32), Ok Γ mX12_fail 1 (qo Γ vV) 16 [(0, va_rf (some z0)), (1, .int z1), (2, .int z2)] [] (k16 z0 z1 z2)) (k32 : Nat → Int32 → Int32 → Int32 → Int32 → M Unit) (hk32 : ∀ (z0 : Nat) (z1 : Int32) (z2 : Int32) (z3 : Int32) (z4 : Int32), Ok Γ mX12_fail 1 (qo Γ vV) 32 [(0, va_rf (some z0)), (1, .int z1), (2, .int z2), (3, .int z3), (4, .int z4)] [] (k32 z0 z1 z2 z3 z4)) (this : Nat) (x1 : Int32) (x2 : Int32) (x3 : Int32) (x4 : Int32) (y0 : Int32) : Ok Γ mX12_fail 1 (qo Γ vV) 57 [(0, va_rf (some this)), (1, .int x1), (2, .int x2), (3, .int x3), (4, .int x4)] [.int y0] (F_X12_fail_L57 k16 k32 this x1 x2 x3 x4 y0) := by
  unfold F_X12_fail_L57
  refine ok_istore (lv' := [(5, .int y0), (0, va_rf (some this)), (1, .int x1), (2, .int x2), (3, .int x3), (4, .int x4)]) (dd TX12_fail_0 36 rfl) (by decide) (by first | rfl | (simp only [List.filter, cat_rf]; rfl)) ?_
  refine ok_iload_n (dd TX12_fail_0 37 rfl) 4 rfl ?_
  refine ok_iconst (v := (1 : Int32)) (dd TX12_fail_0 38 rfl) (by decide) ?_
  refine ok_iadd (dd TX12_fail_0 39 rfl) ?_
  refine ok_aload_n (dd TX12_fail_1 0 rfl) 1 rfl ?_
  refine ok_gI fl_RX12_94 rfl (dd TX12_fail_1 1 rfl) (fun v7 => ?_)
  refine ok_irem (dd TX12_fail_1 2 rfl) ?_
  refine ok_istore (lv' := [(6, .int ((x3 + (1 : Int32)) - (x3 + (1 : Int32)) / v7 * v7)), (5, .int y0), (0, va_rf (some this)), (1, .int x1), (2, .int x2), (3, .int x3), (4, .int x4)]) (dd TX12_fail_1 3 rfl) (by decide) (by first | rfl | (simp only [List.filter, cat_rf]; rfl)) ?_
  refine ok_iconst (v := (0 : Int32)) (dd TX12_fail_1 4 rfl) (by decide) ?_
  refine ok_istore (lv' := [(7, .int (0 : Int32)), (6, .int ((x3 + (1 : Int32)) - (x3 + (1 : Int32)) / v7 * v7)), (5, .int y0), (0, va_rf (some this)), (1, .int x1), (2, .int x2), (3, .int x3), (4, .int x4)]) (dd TX12_fail_1 5 rfl) (by decide) (by first | rfl | (simp only [List.filter, cat_rf]; rfl)) ?_
  refine ok_sub [3, 4, 5, 7, 2, 1, 0] rfl ?_
  exact O_X12_fail_L72 Γ k16 hk16 k32 hk32 FU this x1 x2 x4 y0 ((x3 + (1 : Int32)) - (x3 + (1 : Int32)) / v7 * v7) (0 : Int32)
def F_X12_fail_L32 (k16 : Nat → Int32 → Int32 → M Unit) : Nat → Nat → Int32 → Int32 → Int32 → Int32 → M Unit
  | 0 => fun _ _ _ _ _ => fl
  | n + 1 => fun this x1 x2 x3 x4 => bn (gP 12 14 (some this)) fun v3 => bn (lI 232 v3 x4) fun v4 => if v4 = 0 then k16 this x1 (x2 + (1 : Int32)) else bn (gP 12 14 (some this)) fun v5 => bn (lI 232 v5 x4) fun v6 => if v6 ≤ 0 then F_X12_fail_L57 k16 (F_X12_fail_L32 k16 n) this x1 x2 x3 x4 (0 : Int32) else F_X12_fail_L57 k16 (F_X12_fail_L32 k16 n) this x1 x2 x3 x4 (1 : Int32)
set_option maxRecDepth 100000 in
theorem O_X12_fail_L32 (Γ : Gam) (k16 : Nat → Int32 → Int32 → M Unit) (hk16 : ∀ (z0 : Nat) (z1 : Int32) (z2 : Int32), Ok Γ mX12_fail 1 (qo Γ vV) 16 [(0, va_rf (some z0)), (1, .int z1), (2, .int z2)] [] (k16 z0 z1 z2)) (n : Nat) : ∀ (this : Nat) (x1 : Int32) (x2 : Int32) (x3 : Int32) (x4 : Int32), Ok Γ mX12_fail 1 (qo Γ vV) 32 [(0, va_rf (some this)), (1, .int x1), (2, .int x2), (3, .int x3), (4, .int x4)] [] (F_X12_fail_L32 k16 n this x1 x2 x3 x4) := by
  induction n with
  | zero => intro this x1 x2 x3 x4; exact ok_fl
  | succ n ih =>
    intro this x1 x2 x3 x4
    rw [F_X12_fail_L32]
    refine ok_aload_n (dd TX12_fail_0 23 rfl) 0 rfl ?_
    refine ok_gP fl_RX12_39 rfl (dd TX12_fail_0 24 rfl) (fun v3 => ?_)
    refine ok_iload (dd TX12_fail_0 25 rfl) 4 rfl ?_
    refine ok_lI (kd := 232) (by decide) rfl (dd TX12_fail_0 26 rfl) (fun v4 => ?_)
    refine ok_if_eq (tgt := 176) (dd TX12_fail_0 27 rfl) (by decide) ?_ ?_
    · refine ok_iinc (lv' := [(2, .int (x2 + (1 : Int32))), (0, va_rf (some this)), (1, .int x1), (3, .int x3), (4, .int x4)]) (dd TX12_fail_2 21 rfl) 2 rfl (congrArg (fun q : Int32 => x2 + q) (show Int32.ofInt (1) = (1 : Int32) from by decide)) (by decide) (by first | rfl | (simp only [List.filter, cat_rf]; rfl)) ?_
      refine ok_goto (tgt := 16) (dd TX12_fail_2 22 rfl) (by decide) ?_
      refine ok_sub [1, 2, 0] rfl ?_
      exact hk16 this x1 (x2 + (1 : Int32))
    · refine ok_aload_n (dd TX12_fail_0 28 rfl) 0 rfl ?_
      refine ok_gP fl_RX12_39 rfl (dd TX12_fail_0 29 rfl) (fun v5 => ?_)
      refine ok_iload (dd TX12_fail_0 30 rfl) 4 rfl ?_
      refine ok_lI (kd := 232) (by decide) rfl (dd TX12_fail_0 31 rfl) (fun v6 => ?_)
      refine ok_if_le (tgt := 56) (dd TX12_fail_0 32 rfl) (by decide) ?_ ?_
      · refine ok_iconst (v := (0 : Int32)) (dd TX12_fail_0 35 rfl) (by decide) ?_
        exact O_X12_fail_L57 Γ k16 hk16 (F_X12_fail_L32 k16 n) ih this x1 x2 x3 x4 (0 : Int32)
      · refine ok_iconst (v := (1 : Int32)) (dd TX12_fail_0 33 rfl) (by decide) ?_
        refine ok_goto (tgt := 57) (dd TX12_fail_0 34 rfl) (by decide) ?_
        exact O_X12_fail_L57 Γ k16 hk16 (F_X12_fail_L32 k16 n) ih this x1 x2 x3 x4 (1 : Int32)
def F_X12_fail_L16 : Nat → Nat → Int32 → Int32 → M Unit
  | 0 => fun _ _ _ => fl
  | n + 1 => fun this x1 x2 => if (6 : Int32) ≤ x2 then rt () else F_X12_fail_L32 (F_X12_fail_L16 n) FU this x1 x2 x1 (((6 : Int32) * x1) + x2)
set_option maxRecDepth 100000 in
theorem O_X12_fail_L16 (Γ : Gam) (n : Nat) : ∀ (this : Nat) (x1 : Int32) (x2 : Int32), Ok Γ mX12_fail 1 (qo Γ vV) 16 [(0, va_rf (some this)), (1, .int x1), (2, .int x2)] [] (F_X12_fail_L16 n this x1 x2) := by
  induction n with
  | zero => intro this x1 x2; exact ok_fl
  | succ n ih =>
    intro this x1 x2
    rw [F_X12_fail_L16]
    refine ok_iload_n (dd TX12_fail_0 12 rfl) 2 rfl ?_
    refine ok_bipush (v := (6 : Int32)) (dd TX12_fail_0 13 rfl) (by decide) ?_
    refine ok_icmp_ge (tgt := 182) (dd TX12_fail_0 14 rfl) (by decide) ?_ ?_
    · exact ok_return (dd TX12_fail_2 23 rfl) rfl
    · refine ok_iload_n (dd TX12_fail_0 15 rfl) 1 rfl ?_
      refine ok_istore_n (lv' := [(3, .int x1), (0, va_rf (some this)), (1, .int x1), (2, .int x2)]) (dd TX12_fail_0 16 rfl) (by decide) (by first | rfl | (simp only [List.filter, cat_rf]; rfl)) ?_
      refine ok_bipush (v := (6 : Int32)) (dd TX12_fail_0 17 rfl) (by decide) ?_
      refine ok_iload_n (dd TX12_fail_0 18 rfl) 2 rfl ?_
      refine ok_imul (dd TX12_fail_0 19 rfl) ?_
      refine ok_iload_n (dd TX12_fail_0 20 rfl) 3 rfl ?_
      refine ok_iadd (dd TX12_fail_0 21 rfl) ?_
      refine ok_istore (lv' := [(4, .int (((6 : Int32) * x1) + x2)), (3, .int x1), (0, va_rf (some this)), (1, .int x1), (2, .int x2)]) (dd TX12_fail_0 22 rfl) (by decide) (by first | rfl | (simp only [List.filter, cat_rf]; rfl)) ?_
      refine ok_sub [2, 3, 4, 1, 0] rfl ?_
      exact O_X12_fail_L32 Γ (F_X12_fail_L16 n) ih FU this x1 x2 x1 (((6 : Int32) * x1) + x2)
def F_X12_fail (this : Nat) (p0 : Int32) : M Unit := bn (gP 12 13 (some this)) fun v1 => bn (stZ 226 v1 p0 (1 : Int32)) fun _ => bn (gP 12 12 (some this)) fun v2 => bn (stZ 218 v2 p0 (0 : Int32)) fun _ => F_X12_fail_L16 FU this p0 (0 : Int32)
set_option maxRecDepth 100000 in
theorem C_X12_fail (Γ : Gam) (this : Nat) (p0 : Int32) : Ct Γ mX12_fail 1 vV [va_rf (some this), .int p0] (F_X12_fail this p0) := by
  refine ct_in (lv := [(0, va_rf (some this)), (1, .int p0)]) (by decide) (by first | rfl | (simp only [lv_args, cat_rf]; rfl)) (by first | exact Nat.le_of_ble_eq_true rfl | (rw [lg_len]; simp only [List.map_cons, List.map_nil, cat_rf]; exact Nat.le_of_ble_eq_true rfl)) ?_
  unfold F_X12_fail
  refine ok_aload_n (dd TX12_fail_0 0 rfl) 0 rfl ?_
  refine ok_gP fl_RX12_36 rfl (dd TX12_fail_0 1 rfl) (fun v1 => ?_)
  refine ok_iload_n (dd TX12_fail_0 2 rfl) 1 rfl ?_
  refine ok_iconst (v := (1 : Int32)) (dd TX12_fail_0 3 rfl) (by decide) ?_
  refine ok_stZ (kd := 226) (by decide) rfl (dd TX12_fail_0 4 rfl) ?_
  refine ok_aload_n (dd TX12_fail_0 5 rfl) 0 rfl ?_
  refine ok_gP fl_RX12_32 rfl (dd TX12_fail_0 6 rfl) (fun v2 => ?_)
  refine ok_iload_n (dd TX12_fail_0 7 rfl) 1 rfl ?_
  refine ok_iconst (v := (0 : Int32)) (dd TX12_fail_0 8 rfl) (by decide) ?_
  refine ok_stZ (kd := 218) (by decide) rfl (dd TX12_fail_0 9 rfl) ?_
  refine ok_iconst (v := (0 : Int32)) (dd TX12_fail_0 10 rfl) (by decide) ?_
  refine ok_istore_n (lv' := [(2, .int (0 : Int32)), (0, va_rf (some this)), (1, .int p0)]) (dd TX12_fail_0 11 rfl) (by decide) (by first | rfl | (simp only [List.filter, cat_rf]; rfl)) ?_
  refine ok_sub [1, 2, 0] rfl ?_
  exact O_X12_fail_L16 Γ FU this p0 (0 : Int32)
def F_X12_member (this : Nat) : M Int32 := bn (wI 12 35 (some this) (0 : Int32)) fun _ => bn (gI 12 10 (some this)) fun v1 => if ¬ v1 = (12 : Int32) then bn (gI 12 10 (some this)) fun v2 => bn (wI 12 10 (some this) (v2 + (1 : Int32))) fun _ => bn (gI 12 10 (some this)) fun v3 => rt (v3 - (1 : Int32)) else rt (-1 : Int32)
set_option maxRecDepth 100000 in
theorem C_X12_member (Γ : Gam) (this : Nat) : Ct Γ mX12_member 0 vI [va_rf (some this)] (F_X12_member this) := by
  refine ct_in (lv := [(0, va_rf (some this))]) (by decide) (by first | rfl | (simp only [lv_args, cat_rf]; rfl)) (by first | exact Nat.le_of_ble_eq_true rfl | (rw [lg_len]; simp only [List.map_cons, List.map_nil, cat_rf]; exact Nat.le_of_ble_eq_true rfl)) ?_
  unfold F_X12_member
  refine ok_aload_n (dd TX12_member_0 0 rfl) 0 rfl ?_
  refine ok_iconst (v := (0 : Int32)) (dd TX12_member_0 1 rfl) (by decide) ?_
  refine ok_wI fl_RX12_90 (Or.inl rfl) (tyX12_ok 35 (by decide)) (by decide) rfl (dd TX12_member_0 2 rfl) ?_
  refine ok_aload_n (dd TX12_member_0 3 rfl) 0 rfl ?_
  refine ok_gI fl_RX12_94 rfl (dd TX12_member_0 4 rfl) (fun v1 => ?_)
  refine ok_bipush (v := (12 : Int32)) (dd TX12_member_0 5 rfl) (by decide) ?_
  refine ok_icmp_ne (tgt := 16) (dd TX12_member_0 6 rfl) (by decide) ?_ ?_
  · refine ok_aload_n (dd TX12_member_0 9 rfl) 0 rfl ?_
    refine ok_dup (dd TX12_member_0 10 rfl) (by first | rfl | exact cat_rf _) ?_
    refine ok_gI fl_RX12_94 rfl (dd TX12_member_0 11 rfl) (fun v2 => ?_)
    refine ok_iconst (v := (1 : Int32)) (dd TX12_member_0 12 rfl) (by decide) ?_
    refine ok_iadd (dd TX12_member_0 13 rfl) ?_
    refine ok_wI fl_RX12_94 (Or.inl rfl) (tyX12_ok 10 (by decide)) (by decide) rfl (dd TX12_member_0 14 rfl) ?_
    refine ok_aload_n (dd TX12_member_0 15 rfl) 0 rfl ?_
    refine ok_gI fl_RX12_94 rfl (dd TX12_member_0 16 rfl) (fun v3 => ?_)
    refine ok_iconst (v := (1 : Int32)) (dd TX12_member_0 17 rfl) (by decide) ?_
    refine ok_isub (dd TX12_member_0 18 rfl) ?_
    exact ok_ireturn (dd TX12_member_0 19 rfl) rfl
  · refine ok_iconst (v := (-1 : Int32)) (dd TX12_member_0 7 rfl) (by decide) ?_
    exact ok_ireturn (dd TX12_member_0 8 rfl) rfl
def F_X12_pay_L27 (this : Nat) : M Int64 := bn (wI 12 35 (some this) (1 : Int32)) fun _ => rt (0 : Int64)
set_option maxRecDepth 100000 in
theorem O_X12_pay_L27 (Γ : Gam) (this : Nat) : Ok Γ mX12_pay 2 (qo Γ vL) 27 [(0, va_rf (some this))] [] (F_X12_pay_L27 this) := by
  unfold F_X12_pay_L27
  refine ok_aload_n (dd TX12_pay_0 13 rfl) 0 rfl ?_
  refine ok_iconst (v := (1 : Int32)) (dd TX12_pay_0 14 rfl) (by decide) ?_
  refine ok_wI fl_RX12_90 (Or.inl rfl) (tyX12_ok 35 (by decide)) (by decide) rfl (dd TX12_pay_0 15 rfl) ?_
  refine ok_lconst (v := (0 : Int64)) (dd TX12_pay_0 16 rfl) (by decide) ?_
  exact ok_lreturn (dd TX12_pay_0 17 rfl) rfl
def F_X12_pay (this : Nat) (p0 : Int32) (p1 : Int32) : M Int64 := bn (wI 12 35 (some this) (0 : Int32)) fun _ => bn (pRc 12 (some this)) fun b1 => bn (F_X12_isMember b1 p0) fun v2 => if v2 = 0 then F_X12_pay_L27 this else bn (F_X12_in p1.toInt64 (-1000000 : Int64) (1000000 : Int64)) fun v3 => if ¬ v3 = 0 then bn (gP 12 11 (some this)) fun v4 => bn (lL 209 v4 p0) fun v5 => bn (stL 209 v4 p0 (v5 + p1.toInt64)) fun _ => bn (gP 12 11 (some this)) fun v6 => bn (lL 209 v6 p0) fun v7 => rt v7 else F_X12_pay_L27 this
set_option maxRecDepth 100000 in
theorem C_X12_pay (Γ : Gam) (this : Nat) (p0 : Int32) (p1 : Int32) : Ct Γ mX12_pay 2 vL [va_rf (some this), .int p0, .int p1] (F_X12_pay this p0 p1) := by
  refine ct_in (lv := [(0, va_rf (some this)), (1, .int p0), (2, .int p1)]) (by decide) (by first | rfl | (simp only [lv_args, cat_rf]; rfl)) (by first | exact Nat.le_of_ble_eq_true rfl | (rw [lg_len]; simp only [List.map_cons, List.map_nil, cat_rf]; exact Nat.le_of_ble_eq_true rfl)) ?_
  unfold F_X12_pay
  refine ok_aload_n (dd TX12_pay_0 0 rfl) 0 rfl ?_
  refine ok_iconst (v := (0 : Int32)) (dd TX12_pay_0 1 rfl) (by decide) ?_
  refine ok_wI fl_RX12_90 (Or.inl rfl) (tyX12_ok 35 (by decide)) (by decide) rfl (dd TX12_pay_0 2 rfl) ?_
  refine ok_aload_n (dd TX12_pay_0 3 rfl) 0 rfl ?_
  refine ok_iload_n (dd TX12_pay_0 4 rfl) 1 rfl ?_
  refine ok_callVI (cn := 12) [.int p0] [] (fun b1 => C_X12_isMember Γ b1 p0) rfl cy_X12_isMember ml_RX12_252 im_X12_isMember se_X12_isMember (by decide) (Nat.le_of_ble_eq_true rfl) rfl (dd TX12_pay_0 5 rfl) (fun v2 => ?_)
  refine ok_if_eq (tgt := 27) (dd TX12_pay_0 6 rfl) (by decide) ?_ ?_
  · refine ok_sub [0] rfl ?_
    exact O_X12_pay_L27 Γ this
  · refine ok_iload_n (dd TX12_pay_0 7 rfl) 2 rfl ?_
    refine ok_i2l (dd TX12_pay_0 8 rfl) ?_
    refine ok_ldc2 (v := (-1000000 : Int64)) (dd TX12_pay_0 9 rfl) cl2_RX12_303 ?_
    refine ok_ldc2 (v := (1000000 : Int64)) (dd TX12_pay_0 10 rfl) cl2_RX12_305 ?_
    refine ok_callSI [.long p1.toInt64, .long (-1000000 : Int64), .long (1000000 : Int64)] [] (C_X12_in Γ p1.toInt64 (-1000000 : Int64) (1000000 : Int64)) cy_X12_in ml_RX12_97 sm_X12_in (by decide) (Nat.le_of_ble_eq_true rfl) rfl (dd TX12_pay_0 11 rfl) (fun v3 => ?_)
    refine ok_if_ne (tgt := 34) (dd TX12_pay_0 12 rfl) (by decide) ?_ ?_
    · refine ok_aload_n (dd TX12_pay_0 18 rfl) 0 rfl ?_
      refine ok_gP fl_RX12_28 rfl (dd TX12_pay_0 19 rfl) (fun v4 => ?_)
      refine ok_iload_n (dd TX12_pay_0 20 rfl) 1 rfl ?_
      refine ok_dup2_11 (dd TX12_pay_0 21 rfl) (by first | rfl | exact cat_rf _) (by first | rfl | exact cat_rf _) ?_
      refine ok_lL (kd := 209) (by decide) rfl (dd TX12_pay_0 22 rfl) (fun v5 => ?_)
      refine ok_iload_n (dd TX12_pay_0 23 rfl) 2 rfl ?_
      refine ok_i2l (dd TX12_pay_0 24 rfl) ?_
      refine ok_ladd (dd TX12_pay_0 25 rfl) ?_
      refine ok_stL (kd := 209) (by decide) rfl (dd TX12_pay_0 26 rfl) ?_
      refine ok_aload_n (dd TX12_pay_0 27 rfl) 0 rfl ?_
      refine ok_gP fl_RX12_28 rfl (dd TX12_pay_0 28 rfl) (fun v6 => ?_)
      refine ok_iload_n (dd TX12_pay_0 29 rfl) 1 rfl ?_
      refine ok_lL (kd := 209) (by decide) rfl (dd TX12_pay_0 30 rfl) (fun v7 => ?_)
      exact ok_lreturn (dd TX12_pay_0 31 rfl) rfl
    · refine ok_sub [0] rfl ?_
      exact O_X12_pay_L27 Γ this
def F_X12_position_L20 (this : Nat) : M Int32 := bn (wI 12 35 (some this) (1 : Int32)) fun _ => rt (0 : Int32)
set_option maxRecDepth 100000 in
theorem O_X12_position_L20 (Γ : Gam) (this : Nat) : Ok Γ mX12_position 2 (qo Γ vI) 20 [(0, va_rf (some this))] [] (F_X12_position_L20 this) := by
  unfold F_X12_position_L20
  refine ok_aload_n (dd TX12_position_0 10 rfl) 0 rfl ?_
  refine ok_iconst (v := (1 : Int32)) (dd TX12_position_0 11 rfl) (by decide) ?_
  refine ok_wI fl_RX12_90 (Or.inl rfl) (tyX12_ok 35 (by decide)) (by decide) rfl (dd TX12_position_0 12 rfl) ?_
  refine ok_iconst (v := (0 : Int32)) (dd TX12_position_0 13 rfl) (by decide) ?_
  exact ok_ireturn (dd TX12_position_0 14 rfl) rfl
def F_X12_position (this : Nat) (p0 : Int32) (p1 : Int32) : M Int32 := bn (wI 12 35 (some this) (0 : Int32)) fun _ => bn (pRc 12 (some this)) fun b1 => bn (F_X12_isMember b1 p0) fun v2 => if v2 = 0 then F_X12_position_L20 this else bn (F_X12_isMonth p1) fun v3 => if ¬ v3 = 0 then bn (gP 12 14 (some this)) fun v4 => bn (lI 232 v4 (((6 : Int32) * p0) + p1)) fun v5 => rt v5 else F_X12_position_L20 this
set_option maxRecDepth 100000 in
theorem C_X12_position (Γ : Gam) (this : Nat) (p0 : Int32) (p1 : Int32) : Ct Γ mX12_position 2 vI [va_rf (some this), .int p0, .int p1] (F_X12_position this p0 p1) := by
  refine ct_in (lv := [(0, va_rf (some this)), (1, .int p0), (2, .int p1)]) (by decide) (by first | rfl | (simp only [lv_args, cat_rf]; rfl)) (by first | exact Nat.le_of_ble_eq_true rfl | (rw [lg_len]; simp only [List.map_cons, List.map_nil, cat_rf]; exact Nat.le_of_ble_eq_true rfl)) ?_
  unfold F_X12_position
  refine ok_aload_n (dd TX12_position_0 0 rfl) 0 rfl ?_
  refine ok_iconst (v := (0 : Int32)) (dd TX12_position_0 1 rfl) (by decide) ?_
  refine ok_wI fl_RX12_90 (Or.inl rfl) (tyX12_ok 35 (by decide)) (by decide) rfl (dd TX12_position_0 2 rfl) ?_
  refine ok_aload_n (dd TX12_position_0 3 rfl) 0 rfl ?_
  refine ok_iload_n (dd TX12_position_0 4 rfl) 1 rfl ?_
  refine ok_callVI (cn := 12) [.int p0] [] (fun b1 => C_X12_isMember Γ b1 p0) rfl cy_X12_isMember ml_RX12_252 im_X12_isMember se_X12_isMember (by decide) (Nat.le_of_ble_eq_true rfl) rfl (dd TX12_position_0 5 rfl) (fun v2 => ?_)
  refine ok_if_eq (tgt := 20) (dd TX12_position_0 6 rfl) (by decide) ?_ ?_
  · refine ok_sub [0] rfl ?_
    exact O_X12_position_L20 Γ this
  · refine ok_iload_n (dd TX12_position_0 7 rfl) 2 rfl ?_
    refine ok_callSI [.int p1] [] (C_X12_isMonth Γ p1) cy_X12_isMonth ml_RX12_255 sm_X12_isMonth (by decide) (Nat.le_of_ble_eq_true rfl) rfl (dd TX12_position_0 8 rfl) (fun v3 => ?_)
    refine ok_if_ne (tgt := 27) (dd TX12_position_0 9 rfl) (by decide) ?_ ?_
    · refine ok_aload_n (dd TX12_position_0 15 rfl) 0 rfl ?_
      refine ok_gP fl_RX12_39 rfl (dd TX12_position_0 16 rfl) (fun v4 => ?_)
      refine ok_bipush (v := (6 : Int32)) (dd TX12_position_0 17 rfl) (by decide) ?_
      refine ok_iload_n (dd TX12_position_0 18 rfl) 1 rfl ?_
      refine ok_imul (dd TX12_position_0 19 rfl) ?_
      refine ok_iload_n (dd TX12_position_0 20 rfl) 2 rfl ?_
      refine ok_iadd (dd TX12_position_0 21 rfl) ?_
      refine ok_lI (kd := 232) (by decide) rfl (dd TX12_position_0 22 rfl) (fun v5 => ?_)
      exact ok_ireturn (dd TX12_position_0 23 rfl) rfl
    · refine ok_sub [0] rfl ?_
      exact O_X12_position_L20 Γ this
def F_X12_longOf (this : Nat) (p0 : Int32) (p1 : Int32) (p2 : Int32) : M Int32 := bn (wI 12 35 (some this) (0 : Int32)) fun _ => bn (F_X12_isMonth p0) fun v1 => if v1 = 0 then rt (-1 : Int32) else bn (gP 12 18 (some this)) fun v2 => bn (lI 264 v2 p0) fun v3 => bn (F_X12_in p1.toInt64 (0 : Int64) ((v3 - (1 : Int32)).toInt64)) fun v4 => if v4 = 0 then rt (-1 : Int32) else bn (F_X12_in p2.toInt64 (0 : Int64) (1 : Int64)) fun v5 => if ¬ v5 = 0 then if ¬ p2 = 0 then bn (gP 12 17 (some this)) fun v6 => bn (lI 256 v6 (((1600 : Int32) * p0) + p1)) fun v7 => rt v7 else bn (gP 12 16 (some this)) fun v8 => bn (lI 248 v8 (((1600 : Int32) * p0) + p1)) fun v9 => rt v9 else rt (-1 : Int32)
set_option maxRecDepth 100000 in
theorem C_X12_longOf (Γ : Gam) (this : Nat) (p0 : Int32) (p1 : Int32) (p2 : Int32) : Ct Γ mX12_longOf 2 vI [va_rf (some this), .int p0, .int p1, .int p2] (F_X12_longOf this p0 p1 p2) := by
  refine ct_in (lv := [(0, va_rf (some this)), (1, .int p0), (2, .int p1), (3, .int p2)]) (by decide) (by first | rfl | (simp only [lv_args, cat_rf]; rfl)) (by first | exact Nat.le_of_ble_eq_true rfl | (rw [lg_len]; simp only [List.map_cons, List.map_nil, cat_rf]; exact Nat.le_of_ble_eq_true rfl)) ?_
  unfold F_X12_longOf
  refine ok_aload_n (dd TX12_longOf_0 0 rfl) 0 rfl ?_
  refine ok_iconst (v := (0 : Int32)) (dd TX12_longOf_0 1 rfl) (by decide) ?_
  refine ok_wI fl_RX12_90 (Or.inl rfl) (tyX12_ok 35 (by decide)) (by decide) rfl (dd TX12_longOf_0 2 rfl) ?_
  refine ok_iload_n (dd TX12_longOf_0 3 rfl) 1 rfl ?_
  refine ok_callSI [.int p0] [] (C_X12_isMonth Γ p0) cy_X12_isMonth ml_RX12_255 sm_X12_isMonth (by decide) (Nat.le_of_ble_eq_true rfl) rfl (dd TX12_longOf_0 4 rfl) (fun v1 => ?_)
  refine ok_if_eq (tgt := 40) (dd TX12_longOf_0 5 rfl) (by decide) ?_ ?_
  · refine ok_iconst (v := (-1 : Int32)) (dd TX12_longOf_0 24 rfl) (by decide) ?_
    exact ok_ireturn (dd TX12_longOf_0 25 rfl) rfl
  · refine ok_iload_n (dd TX12_longOf_0 6 rfl) 2 rfl ?_
    refine ok_i2l (dd TX12_longOf_0 7 rfl) ?_
    refine ok_lconst (v := (0 : Int64)) (dd TX12_longOf_0 8 rfl) (by decide) ?_
    refine ok_aload_n (dd TX12_longOf_0 9 rfl) 0 rfl ?_
    refine ok_gP fl_RX12_51 rfl (dd TX12_longOf_0 10 rfl) (fun v2 => ?_)
    refine ok_iload_n (dd TX12_longOf_0 11 rfl) 1 rfl ?_
    refine ok_lI (kd := 264) (by decide) rfl (dd TX12_longOf_0 12 rfl) (fun v3 => ?_)
    refine ok_iconst (v := (1 : Int32)) (dd TX12_longOf_0 13 rfl) (by decide) ?_
    refine ok_isub (dd TX12_longOf_0 14 rfl) ?_
    refine ok_i2l (dd TX12_longOf_0 15 rfl) ?_
    refine ok_callSI [.long p1.toInt64, .long (0 : Int64), .long ((v3 - (1 : Int32)).toInt64)] [] (C_X12_in Γ p1.toInt64 (0 : Int64) ((v3 - (1 : Int32)).toInt64)) cy_X12_in ml_RX12_97 sm_X12_in (by decide) (Nat.le_of_ble_eq_true rfl) rfl (dd TX12_longOf_0 16 rfl) (fun v4 => ?_)
    refine ok_if_eq (tgt := 40) (dd TX12_longOf_0 17 rfl) (by decide) ?_ ?_
    · refine ok_iconst (v := (-1 : Int32)) (dd TX12_longOf_0 24 rfl) (by decide) ?_
      exact ok_ireturn (dd TX12_longOf_0 25 rfl) rfl
    · refine ok_iload_n (dd TX12_longOf_0 18 rfl) 3 rfl ?_
      refine ok_i2l (dd TX12_longOf_0 19 rfl) ?_
      refine ok_lconst (v := (0 : Int64)) (dd TX12_longOf_0 20 rfl) (by decide) ?_
      refine ok_lconst (v := (1 : Int64)) (dd TX12_longOf_0 21 rfl) (by decide) ?_
      refine ok_callSI [.long p2.toInt64, .long (0 : Int64), .long (1 : Int64)] [] (C_X12_in Γ p2.toInt64 (0 : Int64) (1 : Int64)) cy_X12_in ml_RX12_97 sm_X12_in (by decide) (Nat.le_of_ble_eq_true rfl) rfl (dd TX12_longOf_0 22 rfl) (fun v5 => ?_)
      refine ok_if_ne (tgt := 42) (dd TX12_longOf_0 23 rfl) (by decide) ?_ ?_
      · refine ok_iload_n (dd TX12_longOf_0 26 rfl) 3 rfl ?_
        refine ok_if_ne (tgt := 61) (dd TX12_longOf_0 27 rfl) (by decide) ?_ ?_
        · refine ok_aload_n (dd TX12_longOf_0 37 rfl) 0 rfl ?_
          refine ok_gP fl_RX12_48 rfl (dd TX12_longOf_0 38 rfl) (fun v6 => ?_)
          refine ok_sipush (v := (1600 : Int32)) (dd TX12_longOf_0 39 rfl) (by decide) ?_
          refine ok_iload_n (dd TX12_longOf_1 0 rfl) 1 rfl ?_
          refine ok_imul (dd TX12_longOf_1 1 rfl) ?_
          refine ok_iload_n (dd TX12_longOf_1 2 rfl) 2 rfl ?_
          refine ok_iadd (dd TX12_longOf_1 3 rfl) ?_
          refine ok_lI (kd := 256) (by decide) rfl (dd TX12_longOf_1 4 rfl) (fun v7 => ?_)
          exact ok_ireturn (dd TX12_longOf_1 5 rfl) rfl
        · refine ok_aload_n (dd TX12_longOf_0 28 rfl) 0 rfl ?_
          refine ok_gP fl_RX12_45 rfl (dd TX12_longOf_0 29 rfl) (fun v8 => ?_)
          refine ok_sipush (v := (1600 : Int32)) (dd TX12_longOf_0 30 rfl) (by decide) ?_
          refine ok_iload_n (dd TX12_longOf_0 31 rfl) 1 rfl ?_
          refine ok_imul (dd TX12_longOf_0 32 rfl) ?_
          refine ok_iload_n (dd TX12_longOf_0 33 rfl) 2 rfl ?_
          refine ok_iadd (dd TX12_longOf_0 34 rfl) ?_
          refine ok_lI (kd := 248) (by decide) rfl (dd TX12_longOf_0 35 rfl) (fun v9 => ?_)
          refine ok_goto (tgt := 73) (dd TX12_longOf_0 36 rfl) (by decide) ?_
          exact ok_ireturn (dd TX12_longOf_1 5 rfl) rfl
      · refine ok_iconst (v := (-1 : Int32)) (dd TX12_longOf_0 24 rfl) (by decide) ?_
        exact ok_ireturn (dd TX12_longOf_0 25 rfl) rfl
def F_X12_count_L121 (k97 : Nat → Int32 → Int32 → M Int32) (this : Nat) (x2 : Int32) (x3 : Int32) : M Int32 := k97 this x2 (x3 + (1 : Int32))
set_option maxRecDepth 100000 in
theorem O_X12_count_L121 (Γ : Gam) (k97 : Nat → Int32 → Int32 → M Int32) (hk97 : ∀ (z0 : Nat) (z2 : Int32) (z3 : Int32), Ok Γ mX12_count 0 (qo Γ vI) 97 [(0, va_rf (some z0)), (2, .int z2), (3, .int z3)] [] (k97 z0 z2 z3)) (this : Nat) (x2 : Int32) (x3 : Int32) : Ok Γ mX12_count 0 (qo Γ vI) 121 [(0, va_rf (some this)), (2, .int x2), (3, .int x3)] [] (F_X12_count_L121 k97 this x2 x3) := by
  unfold F_X12_count_L121
  refine ok_iinc (lv' := [(3, .int (x3 + (1 : Int32))), (0, va_rf (some this)), (2, .int x2)]) (dd TX12_count_1 3 rfl) 2 rfl (congrArg (fun q : Int32 => x3 + q) (show Int32.ofInt (1) = (1 : Int32) from by decide)) (by decide) (by first | rfl | (simp only [List.filter, cat_rf]; rfl)) ?_
  refine ok_goto (tgt := 97) (dd TX12_count_1 4 rfl) (by decide) ?_
  refine ok_sub [1, 2, 0] rfl ?_
  exact hk97 this x2 (x3 + (1 : Int32))
def F_X12_count_L97 : Nat → Nat → Int32 → Int32 → M Int32
  | 0 => fun _ _ _ => fl
  | n + 1 => fun this x2 x3 => bn (gI 12 34 (some this)) fun v9 => if v9 ≤ x3 then rt x2 else bn (gP 12 33 (some this)) fun v10 => bn (lI 344 v10 ((7 : Int32) * x3)) fun v11 => if ¬ v11 = (1 : Int32) then F_X12_count_L121 (F_X12_count_L97 n) this x2 x3 else F_X12_count_L121 (F_X12_count_L97 n) this (x2 + (1 : Int32)) x3
set_option maxRecDepth 100000 in
theorem O_X12_count_L97 (Γ : Gam) (n : Nat) : ∀ (this : Nat) (x2 : Int32) (x3 : Int32), Ok Γ mX12_count 0 (qo Γ vI) 97 [(0, va_rf (some this)), (2, .int x2), (3, .int x3)] [] (F_X12_count_L97 n this x2 x3) := by
  induction n with
  | zero => intro this x2 x3; exact ok_fl
  | succ n ih =>
    intro this x2 x3
    rw [F_X12_count_L97]
    refine ok_iload_n (dd TX12_count_0 30 rfl) 2 rfl ?_
    refine ok_aload_n (dd TX12_count_0 31 rfl) 0 rfl ?_
    refine ok_gI fl_RX12_313 rfl (dd TX12_count_0 32 rfl) (fun v9 => ?_)
    refine ok_icmp_ge (tgt := 127) (dd TX12_count_0 33 rfl) (by decide) ?_ ?_
    · refine ok_iload_n (dd TX12_count_1 5 rfl) 1 rfl ?_
      exact ok_ireturn (dd TX12_count_1 6 rfl) rfl
    · refine ok_aload_n (dd TX12_count_0 34 rfl) 0 rfl ?_
      refine ok_gP fl_RX12_81 rfl (dd TX12_count_0 35 rfl) (fun v10 => ?_)
      refine ok_bipush (v := (7 : Int32)) (dd TX12_count_0 36 rfl) (by decide) ?_
      refine ok_iload_n (dd TX12_count_0 37 rfl) 2 rfl ?_
      refine ok_imul (dd TX12_count_0 38 rfl) ?_
      refine ok_lI (kd := 344) (by decide) rfl (dd TX12_count_0 39 rfl) (fun v11 => ?_)
      refine ok_iconst (v := (1 : Int32)) (dd TX12_count_1 0 rfl) (by decide) ?_
      refine ok_icmp_ne (tgt := 121) (dd TX12_count_1 1 rfl) (by decide) ?_ ?_
      · exact O_X12_count_L121 Γ (F_X12_count_L97 n) ih this x2 x3
      · refine ok_iinc (lv' := [(2, .int (x2 + (1 : Int32))), (0, va_rf (some this)), (3, .int x3)]) (dd TX12_count_1 2 rfl) 1 rfl (congrArg (fun q : Int32 => x2 + q) (show Int32.ofInt (1) = (1 : Int32) from by decide)) (by decide) (by first | rfl | (simp only [List.filter, cat_rf]; rfl)) ?_
        refine ok_sub [1, 0, 2] rfl ?_
        exact O_X12_count_L121 Γ (F_X12_count_L97 n) ih this (x2 + (1 : Int32)) x3
def F_X12_count (this : Nat) (p0 : Int32) : M Int32 := bn (wI 12 35 (some this) (0 : Int32)) fun _ => swF p0 [((0 : Int32), 60, bn (gI 12 24 (some this)) fun v1 => rt v1), ((1 : Int32), 65, bn (gI 12 10 (some this)) fun v2 => rt v2), ((2 : Int32), 70, bn (gI 12 23 (some this)) fun v3 => rt v3), ((3 : Int32), 75, bn (gI 12 21 (some this)) fun v4 => rt v4), ((4 : Int32), 80, bn (gI 12 9 (some this)) fun v5 => rt v5), ((5 : Int32), 85, bn (gI 12 32 (some this)) fun v6 => rt v6), ((6 : Int32), 90, bn (gI 12 34 (some this)) fun v7 => rt v7), ((7 : Int32), 95, F_X12_count_L97 FU this (0 : Int32) (0 : Int32)), ((8 : Int32), 129, bn (gI 12 1 (some this)) fun v8 => rt v8)] (rt (-1 : Int32))
set_option maxRecDepth 100000 in
theorem C_X12_count (Γ : Gam) (this : Nat) (p0 : Int32) : Ct Γ mX12_count 0 vI [va_rf (some this), .int p0] (F_X12_count this p0) := by
  refine ct_in (lv := [(0, va_rf (some this)), (1, .int p0)]) (by decide) (by first | rfl | (simp only [lv_args, cat_rf]; rfl)) (by first | exact Nat.le_of_ble_eq_true rfl | (rw [lg_len]; simp only [List.map_cons, List.map_nil, cat_rf]; exact Nat.le_of_ble_eq_true rfl)) ?_
  unfold F_X12_count
  refine ok_aload_n (dd TX12_count_0 0 rfl) 0 rfl ?_
  refine ok_iconst (v := (0 : Int32)) (dd TX12_count_0 1 rfl) (by decide) ?_
  refine ok_wI fl_RX12_90 (Or.inl rfl) (tyX12_ok 35 (by decide)) (by decide) rfl (dd TX12_count_0 2 rfl) ?_
  refine ok_iconst (v := (0 : Int32)) (dd TX12_count_0 3 rfl) (by decide) ?_
  refine ok_istore_n (lv' := [(2, .int (0 : Int32)), (0, va_rf (some this)), (1, .int p0)]) (dd TX12_count_0 4 rfl) (by decide) (by first | rfl | (simp only [List.filter, cat_rf]; rfl)) ?_
  refine ok_iload_n (dd TX12_count_0 5 rfl) 2 rfl ?_
  refine ok_tsw (dt := 134) (dd TX12_count_0 6 rfl) rfl (List.forall_mem_cons.mpr ⟨?_, List.forall_mem_cons.mpr ⟨?_, List.forall_mem_cons.mpr ⟨?_, List.forall_mem_cons.mpr ⟨?_, List.forall_mem_cons.mpr ⟨?_, List.forall_mem_cons.mpr ⟨?_, List.forall_mem_cons.mpr ⟨?_, List.forall_mem_cons.mpr ⟨?_, List.forall_mem_cons.mpr ⟨?_, fun _ h => absurd h List.not_mem_nil⟩⟩⟩⟩⟩⟩⟩⟩⟩) ?_
  · show Ok _ _ _ _ 60 _ _ (bn (gI 12 24 (some this)) fun v1 => rt v1)
    refine ok_aload_n (dd TX12_count_0 7 rfl) 1 rfl ?_
    refine ok_gI fl_RX12_238 rfl (dd TX12_count_0 8 rfl) (fun v1 => ?_)
    exact ok_ireturn (dd TX12_count_0 9 rfl) rfl
  · show Ok _ _ _ _ 65 _ _ (bn (gI 12 10 (some this)) fun v2 => rt v2)
    refine ok_aload_n (dd TX12_count_0 10 rfl) 1 rfl ?_
    refine ok_gI fl_RX12_94 rfl (dd TX12_count_0 11 rfl) (fun v2 => ?_)
    exact ok_ireturn (dd TX12_count_0 12 rfl) rfl
  · show Ok _ _ _ _ 70 _ _ (bn (gI 12 23 (some this)) fun v3 => rt v3)
    refine ok_aload_n (dd TX12_count_0 13 rfl) 1 rfl ?_
    refine ok_gI fl_RX12_270 rfl (dd TX12_count_0 14 rfl) (fun v3 => ?_)
    exact ok_ireturn (dd TX12_count_0 15 rfl) rfl
  · show Ok _ _ _ _ 75 _ _ (bn (gI 12 21 (some this)) fun v4 => rt v4)
    refine ok_aload_n (dd TX12_count_0 16 rfl) 1 rfl ?_
    refine ok_gI fl_RX12_245 rfl (dd TX12_count_0 17 rfl) (fun v4 => ?_)
    exact ok_ireturn (dd TX12_count_0 18 rfl) rfl
  · show Ok _ _ _ _ 80 _ _ (bn (gI 12 9 (some this)) fun v5 => rt v5)
    refine ok_aload_n (dd TX12_count_0 19 rfl) 1 rfl ?_
    refine ok_gI fl_RX12_202 rfl (dd TX12_count_0 20 rfl) (fun v5 => ?_)
    exact ok_ireturn (dd TX12_count_0 21 rfl) rfl
  · show Ok _ _ _ _ 85 _ _ (bn (gI 12 32 (some this)) fun v6 => rt v6)
    refine ok_aload_n (dd TX12_count_0 22 rfl) 1 rfl ?_
    refine ok_gI fl_RX12_310 rfl (dd TX12_count_0 23 rfl) (fun v6 => ?_)
    exact ok_ireturn (dd TX12_count_0 24 rfl) rfl
  · show Ok _ _ _ _ 90 _ _ (bn (gI 12 34 (some this)) fun v7 => rt v7)
    refine ok_aload_n (dd TX12_count_0 25 rfl) 1 rfl ?_
    refine ok_gI fl_RX12_313 rfl (dd TX12_count_0 26 rfl) (fun v7 => ?_)
    exact ok_ireturn (dd TX12_count_0 27 rfl) rfl
  · show Ok _ _ _ _ 95 _ _ (F_X12_count_L97 FU this (0 : Int32) (0 : Int32))
    refine ok_iconst (v := (0 : Int32)) (dd TX12_count_0 28 rfl) (by decide) ?_
    refine ok_istore_n (lv' := [(3, .int (0 : Int32)), (2, .int (0 : Int32)), (0, va_rf (some this)), (1, .int p0)]) (dd TX12_count_0 29 rfl) (by decide) (by first | rfl | (simp only [List.filter, cat_rf]; rfl)) ?_
    refine ok_sub [2, 1, 0] rfl ?_
    exact O_X12_count_L97 Γ FU this (0 : Int32) (0 : Int32)
  · show Ok _ _ _ _ 129 _ _ (bn (gI 12 1 (some this)) fun v8 => rt v8)
    refine ok_aload_n (dd TX12_count_1 7 rfl) 1 rfl ?_
    refine ok_gI fl_RX12_103 rfl (dd TX12_count_1 8 rfl) (fun v8 => ?_)
    exact ok_ireturn (dd TX12_count_1 9 rfl) rfl
  · show Ok _ _ _ _ 134 _ _ (rt (-1 : Int32))
    refine ok_iconst (v := (-1 : Int32)) (dd TX12_count_1 10 rfl) (by decide) ?_
    exact ok_ireturn (dd TX12_count_1 11 rfl) rfl
def F_X12_deliver_L60 (k37 : Nat → Int32 → Int32 → M Int32) (this : Nat) (x1 : Int32) (x2 : Int32) : M Int32 := k37 this x1 (x2 + (-1 : Int32))
set_option maxRecDepth 100000 in
theorem O_X12_deliver_L60 (Γ : Gam) (k37 : Nat → Int32 → Int32 → M Int32) (hk37 : ∀ (z0 : Nat) (z1 : Int32) (z2 : Int32), Ok Γ mX12_deliver 2 (qo Γ vI) 37 [(0, va_rf (some z0)), (1, .int z1), (2, .int z2)] [] (k37 z0 z1 z2)) (this : Nat) (x1 : Int32) (x2 : Int32) : Ok Γ mX12_deliver 2 (qo Γ vI) 60 [(0, va_rf (some this)), (1, .int x1), (2, .int x2)] [] (F_X12_deliver_L60 k37 this x1 x2) := by
  unfold F_X12_deliver_L60
  refine ok_iinc (lv' := [(2, .int (x2 + (-1 : Int32))), (0, va_rf (some this)), (1, .int x1)]) (dd TX12_deliver_0 38 rfl) 2 rfl (congrArg (fun q : Int32 => x2 + q) (show Int32.ofInt (-1) = (-1 : Int32) from by decide)) (by decide) (by first | rfl | (simp only [List.filter, cat_rf]; rfl)) ?_
  refine ok_goto (tgt := 37) (dd TX12_deliver_0 39 rfl) (by decide) ?_
  refine ok_sub [1, 2, 0] rfl ?_
  exact hk37 this x1 (x2 + (-1 : Int32))
def F_X12_deliver_L37 : Nat → Nat → Int32 → Int32 → M Int32
  | 0 => fun _ _ _ => fl
  | n + 1 => fun this x1 x2 => if x2 < 0 then rz (1 : Int32) else bn (gP 12 20 (some this)) fun v6 => bn (lI 280 v6 (((5 : Int32) * x2) + (2 : Int32))) fun v7 => if ¬ v7 = x1 then F_X12_deliver_L60 (F_X12_deliver_L37 n) this x1 x2 else bn (pRc 12 (some this)) fun b8 => bn (F_X12_dropOrder b8 x2) fun _ => F_X12_deliver_L60 (F_X12_deliver_L37 n) this x1 x2
set_option maxRecDepth 100000 in
theorem O_X12_deliver_L37 (Γ : Gam) (n : Nat) : ∀ (this : Nat) (x1 : Int32) (x2 : Int32), Ok Γ mX12_deliver 2 (qo Γ vI) 37 [(0, va_rf (some this)), (1, .int x1), (2, .int x2)] [] (F_X12_deliver_L37 n this x1 x2) := by
  induction n with
  | zero => intro this x1 x2; exact ok_fl
  | succ n ih =>
    intro this x1 x2
    rw [F_X12_deliver_L37]
    refine ok_iload_n (dd TX12_deliver_0 23 rfl) 2 rfl ?_
    refine ok_if_lt (tgt := 66) (dd TX12_deliver_0 24 rfl) (by decide) ?_ ?_
    · refine ok_iconst (v := (1 : Int32)) (dd TX12_deliver_1 0 rfl) (by decide) ?_
      exact ok_zreturn (dd TX12_deliver_1 1 rfl) rfl
    · refine ok_aload_n (dd TX12_deliver_0 25 rfl) 0 rfl ?_
      refine ok_gP fl_RX12_57 rfl (dd TX12_deliver_0 26 rfl) (fun v6 => ?_)
      refine ok_iconst (v := (5 : Int32)) (dd TX12_deliver_0 27 rfl) (by decide) ?_
      refine ok_iload_n (dd TX12_deliver_0 28 rfl) 2 rfl ?_
      refine ok_imul (dd TX12_deliver_0 29 rfl) ?_
      refine ok_iconst (v := (2 : Int32)) (dd TX12_deliver_0 30 rfl) (by decide) ?_
      refine ok_iadd (dd TX12_deliver_0 31 rfl) ?_
      refine ok_lI (kd := 280) (by decide) rfl (dd TX12_deliver_0 32 rfl) (fun v7 => ?_)
      refine ok_iload_n (dd TX12_deliver_0 33 rfl) 1 rfl ?_
      refine ok_icmp_ne (tgt := 60) (dd TX12_deliver_0 34 rfl) (by decide) ?_ ?_
      · exact O_X12_deliver_L60 Γ (F_X12_deliver_L37 n) ih this x1 x2
      · refine ok_aload_n (dd TX12_deliver_0 35 rfl) 0 rfl ?_
        refine ok_iload_n (dd TX12_deliver_0 36 rfl) 2 rfl ?_
        refine ok_callVV (cn := 12) [.int x2] [] (fun b8 => C_X12_dropOrder Γ b8 x2) rfl cy_X12_dropOrder ml_RX12_285 im_X12_dropOrder se_X12_dropOrder (by decide) (Nat.le_of_ble_eq_true rfl) rfl (dd TX12_deliver_0 37 rfl) ?_
        exact O_X12_deliver_L60 Γ (F_X12_deliver_L37 n) ih this x1 x2
def F_X12_deliver (this : Nat) (p0 : Int32) : M Int32 := bn (wI 12 35 (some this) (0 : Int32)) fun _ => bn (F_X12_isMonth p0) fun v1 => if v1 = 0 then rz (0 : Int32) else bn (gP 12 19 (some this)) fun v2 => bn (lI 274 v2 p0) fun v3 => if v3 = 0 then bn (gP 12 19 (some this)) fun v4 => bn (stZ 274 v4 p0 (1 : Int32)) fun _ => bn (gI 12 21 (some this)) fun v5 => F_X12_deliver_L37 FU this p0 (v5 - (1 : Int32)) else rz (0 : Int32)
set_option maxRecDepth 100000 in
theorem C_X12_deliver (Γ : Gam) (this : Nat) (p0 : Int32) : Ct Γ mX12_deliver 2 vI [va_rf (some this), .int p0] (F_X12_deliver this p0) := by
  refine ct_in (lv := [(0, va_rf (some this)), (1, .int p0)]) (by decide) (by first | rfl | (simp only [lv_args, cat_rf]; rfl)) (by first | exact Nat.le_of_ble_eq_true rfl | (rw [lg_len]; simp only [List.map_cons, List.map_nil, cat_rf]; exact Nat.le_of_ble_eq_true rfl)) ?_
  unfold F_X12_deliver
  refine ok_aload_n (dd TX12_deliver_0 0 rfl) 0 rfl ?_
  refine ok_iconst (v := (0 : Int32)) (dd TX12_deliver_0 1 rfl) (by decide) ?_
  refine ok_wI fl_RX12_90 (Or.inl rfl) (tyX12_ok 35 (by decide)) (by decide) rfl (dd TX12_deliver_0 2 rfl) ?_
  refine ok_iload_n (dd TX12_deliver_0 3 rfl) 1 rfl ?_
  refine ok_callSI [.int p0] [] (C_X12_isMonth Γ p0) cy_X12_isMonth ml_RX12_255 sm_X12_isMonth (by decide) (Nat.le_of_ble_eq_true rfl) rfl (dd TX12_deliver_0 4 rfl) (fun v1 => ?_)
  refine ok_if_eq (tgt := 21) (dd TX12_deliver_0 5 rfl) (by decide) ?_ ?_
  · refine ok_iconst (v := (0 : Int32)) (dd TX12_deliver_0 11 rfl) (by decide) ?_
    exact ok_zreturn (dd TX12_deliver_0 12 rfl) rfl
  · refine ok_aload_n (dd TX12_deliver_0 6 rfl) 0 rfl ?_
    refine ok_gP fl_RX12_54 rfl (dd TX12_deliver_0 7 rfl) (fun v2 => ?_)
    refine ok_iload_n (dd TX12_deliver_0 8 rfl) 1 rfl ?_
    refine ok_lZ (kd := 274) (by decide) rfl (dd TX12_deliver_0 9 rfl) (fun v3 => ?_)
    refine ok_if_eq (tgt := 23) (dd TX12_deliver_0 10 rfl) (by decide) ?_ ?_
    · refine ok_aload_n (dd TX12_deliver_0 13 rfl) 0 rfl ?_
      refine ok_gP fl_RX12_54 rfl (dd TX12_deliver_0 14 rfl) (fun v4 => ?_)
      refine ok_iload_n (dd TX12_deliver_0 15 rfl) 1 rfl ?_
      refine ok_iconst (v := (1 : Int32)) (dd TX12_deliver_0 16 rfl) (by decide) ?_
      refine ok_stZ (kd := 274) (by decide) rfl (dd TX12_deliver_0 17 rfl) ?_
      refine ok_aload_n (dd TX12_deliver_0 18 rfl) 0 rfl ?_
      refine ok_gI fl_RX12_245 rfl (dd TX12_deliver_0 19 rfl) (fun v5 => ?_)
      refine ok_iconst (v := (1 : Int32)) (dd TX12_deliver_0 20 rfl) (by decide) ?_
      refine ok_isub (dd TX12_deliver_0 21 rfl) ?_
      refine ok_istore_n (lv' := [(2, .int (v5 - (1 : Int32))), (0, va_rf (some this)), (1, .int p0)]) (dd TX12_deliver_0 22 rfl) (by decide) (by first | rfl | (simp only [List.filter, cat_rf]; rfl)) ?_
      refine ok_sub [1, 2, 0] rfl ?_
      exact O_X12_deliver_L37 Γ FU this p0 (v5 - (1 : Int32))
    · refine ok_iconst (v := (0 : Int32)) (dd TX12_deliver_0 11 rfl) (by decide) ?_
      exact ok_zreturn (dd TX12_deliver_0 12 rfl) rfl
def F_X12_receipt (this : Nat) (p0 : Int32) (p1 : Int32) (p2 : Int32) : M Int32 := bn (wI 12 35 (some this) (0 : Int32)) fun _ => bn (pRc 12 (some this)) fun b1 => bn (F_X12_isMember b1 p0) fun v2 => if v2 = 0 then rt (-1 : Int32) else bn (F_X12_in p1.toInt64 (0 : Int64) (3 : Int64)) fun v3 => if v3 = 0 then rt (-1 : Int32) else bn (F_X12_in p2.toInt64 (0 : Int64) (3 : Int64)) fun v4 => if v4 = 0 then rt (-1 : Int32) else bn (gI 12 32 (some this)) fun v5 => if ¬ v5 = (60 : Int32) then bn (gI 12 32 (some this)) fun v6 => bn (gP 12 31 (some this)) fun v7 => bn (stI 336 v7 ((4 : Int32) * v6) p1) fun _ => bn (gP 12 31 (some this)) fun v8 => bn (stI 336 v8 (((4 : Int32) * v6) + (1 : Int32)) p2) fun _ => bn (gP 12 31 (some this)) fun v9 => bn (stI 336 v9 (((4 : Int32) * v6) + (2 : Int32)) p0) fun _ => bn (gP 12 31 (some this)) fun v10 => bn (stI 336 v10 (((4 : Int32) * v6) + (3 : Int32)) (1 : Int32)) fun _ => bn (gI 12 32 (some this)) fun v11 => bn (wI 12 32 (some this) (v11 + (1 : Int32))) fun _ => bn (gI 12 32 (some this)) fun v12 => rt (v12 - (1 : Int32)) else rt (-1 : Int32)
set_option maxRecDepth 100000 in
theorem C_X12_receipt (Γ : Gam) (this : Nat) (p0 : Int32) (p1 : Int32) (p2 : Int32) : Ct Γ mX12_receipt 2 vI [va_rf (some this), .int p0, .int p1, .int p2] (F_X12_receipt this p0 p1 p2) := by
  refine ct_in (lv := [(0, va_rf (some this)), (1, .int p0), (2, .int p1), (3, .int p2)]) (by decide) (by first | rfl | (simp only [lv_args, cat_rf]; rfl)) (by first | exact Nat.le_of_ble_eq_true rfl | (rw [lg_len]; simp only [List.map_cons, List.map_nil, cat_rf]; exact Nat.le_of_ble_eq_true rfl)) ?_
  unfold F_X12_receipt
  refine ok_aload_n (dd TX12_receipt_0 0 rfl) 0 rfl ?_
  refine ok_iconst (v := (0 : Int32)) (dd TX12_receipt_0 1 rfl) (by decide) ?_
  refine ok_wI fl_RX12_90 (Or.inl rfl) (tyX12_ok 35 (by decide)) (by decide) rfl (dd TX12_receipt_0 2 rfl) ?_
  refine ok_aload_n (dd TX12_receipt_0 3 rfl) 0 rfl ?_
  refine ok_iload_n (dd TX12_receipt_0 4 rfl) 1 rfl ?_
  refine ok_callVI (cn := 12) [.int p0] [] (fun b1 => C_X12_isMember Γ b1 p0) rfl cy_X12_isMember ml_RX12_252 im_X12_isMember se_X12_isMember (by decide) (Nat.le_of_ble_eq_true rfl) rfl (dd TX12_receipt_0 5 rfl) (fun v2 => ?_)
  refine ok_if_eq (tgt := 46) (dd TX12_receipt_0 6 rfl) (by decide) ?_ ?_
  · refine ok_iconst (v := (-1 : Int32)) (dd TX12_receipt_0 23 rfl) (by decide) ?_
    exact ok_ireturn (dd TX12_receipt_0 24 rfl) rfl
  · refine ok_iload_n (dd TX12_receipt_0 7 rfl) 2 rfl ?_
    refine ok_i2l (dd TX12_receipt_0 8 rfl) ?_
    refine ok_lconst (v := (0 : Int64)) (dd TX12_receipt_0 9 rfl) (by decide) ?_
    refine ok_ldc2 (v := (3 : Int64)) (dd TX12_receipt_0 10 rfl) cl2_RX12_316 ?_
    refine ok_callSI [.long p1.toInt64, .long (0 : Int64), .long (3 : Int64)] [] (C_X12_in Γ p1.toInt64 (0 : Int64) (3 : Int64)) cy_X12_in ml_RX12_97 sm_X12_in (by decide) (Nat.le_of_ble_eq_true rfl) rfl (dd TX12_receipt_0 11 rfl) (fun v3 => ?_)
    refine ok_if_eq (tgt := 46) (dd TX12_receipt_0 12 rfl) (by decide) ?_ ?_
    · refine ok_iconst (v := (-1 : Int32)) (dd TX12_receipt_0 23 rfl) (by decide) ?_
      exact ok_ireturn (dd TX12_receipt_0 24 rfl) rfl
    · refine ok_iload_n (dd TX12_receipt_0 13 rfl) 3 rfl ?_
      refine ok_i2l (dd TX12_receipt_0 14 rfl) ?_
      refine ok_lconst (v := (0 : Int64)) (dd TX12_receipt_0 15 rfl) (by decide) ?_
      refine ok_ldc2 (v := (3 : Int64)) (dd TX12_receipt_0 16 rfl) cl2_RX12_316 ?_
      refine ok_callSI [.long p2.toInt64, .long (0 : Int64), .long (3 : Int64)] [] (C_X12_in Γ p2.toInt64 (0 : Int64) (3 : Int64)) cy_X12_in ml_RX12_97 sm_X12_in (by decide) (Nat.le_of_ble_eq_true rfl) rfl (dd TX12_receipt_0 17 rfl) (fun v4 => ?_)
      refine ok_if_eq (tgt := 46) (dd TX12_receipt_0 18 rfl) (by decide) ?_ ?_
      · refine ok_iconst (v := (-1 : Int32)) (dd TX12_receipt_0 23 rfl) (by decide) ?_
        exact ok_ireturn (dd TX12_receipt_0 24 rfl) rfl
      · refine ok_aload_n (dd TX12_receipt_0 19 rfl) 0 rfl ?_
        refine ok_gI fl_RX12_310 rfl (dd TX12_receipt_0 20 rfl) (fun v5 => ?_)
        refine ok_bipush (v := (60 : Int32)) (dd TX12_receipt_0 21 rfl) (by decide) ?_
        refine ok_icmp_ne (tgt := 48) (dd TX12_receipt_0 22 rfl) (by decide) ?_ ?_
        · refine ok_iconst (v := (4 : Int32)) (dd TX12_receipt_0 25 rfl) (by decide) ?_
          refine ok_aload_n (dd TX12_receipt_0 26 rfl) 0 rfl ?_
          refine ok_gI fl_RX12_310 rfl (dd TX12_receipt_0 27 rfl) (fun v6 => ?_)
          refine ok_imul (dd TX12_receipt_0 28 rfl) ?_
          refine ok_istore (lv' := [(4, .int ((4 : Int32) * v6)), (0, va_rf (some this)), (1, .int p0), (2, .int p1), (3, .int p2)]) (dd TX12_receipt_0 29 rfl) (by decide) (by first | rfl | (simp only [List.filter, cat_rf]; rfl)) ?_
          refine ok_aload_n (dd TX12_receipt_0 30 rfl) 1 rfl ?_
          refine ok_gP fl_RX12_78 rfl (dd TX12_receipt_0 31 rfl) (fun v7 => ?_)
          refine ok_iload (dd TX12_receipt_0 32 rfl) 0 rfl ?_
          refine ok_iload_n (dd TX12_receipt_0 33 rfl) 3 rfl ?_
          refine ok_stI (kd := 336) (by decide) rfl (dd TX12_receipt_0 34 rfl) ?_
          refine ok_aload_n (dd TX12_receipt_0 35 rfl) 1 rfl ?_
          refine ok_gP fl_RX12_78 rfl (dd TX12_receipt_0 36 rfl) (fun v8 => ?_)
          refine ok_iload (dd TX12_receipt_0 37 rfl) 0 rfl ?_
          refine ok_iconst (v := (1 : Int32)) (dd TX12_receipt_0 38 rfl) (by decide) ?_
          refine ok_iadd (dd TX12_receipt_0 39 rfl) ?_
          refine ok_iload_n (dd TX12_receipt_1 0 rfl) 4 rfl ?_
          refine ok_stI (kd := 336) (by decide) rfl (dd TX12_receipt_1 1 rfl) ?_
          refine ok_aload_n (dd TX12_receipt_1 2 rfl) 1 rfl ?_
          refine ok_gP fl_RX12_78 rfl (dd TX12_receipt_1 3 rfl) (fun v9 => ?_)
          refine ok_iload (dd TX12_receipt_1 4 rfl) 0 rfl ?_
          refine ok_iconst (v := (2 : Int32)) (dd TX12_receipt_1 5 rfl) (by decide) ?_
          refine ok_iadd (dd TX12_receipt_1 6 rfl) ?_
          refine ok_iload_n (dd TX12_receipt_1 7 rfl) 2 rfl ?_
          refine ok_stI (kd := 336) (by decide) rfl (dd TX12_receipt_1 8 rfl) ?_
          refine ok_aload_n (dd TX12_receipt_1 9 rfl) 1 rfl ?_
          refine ok_gP fl_RX12_78 rfl (dd TX12_receipt_1 10 rfl) (fun v10 => ?_)
          refine ok_iload (dd TX12_receipt_1 11 rfl) 0 rfl ?_
          refine ok_iconst (v := (3 : Int32)) (dd TX12_receipt_1 12 rfl) (by decide) ?_
          refine ok_iadd (dd TX12_receipt_1 13 rfl) ?_
          refine ok_iconst (v := (1 : Int32)) (dd TX12_receipt_1 14 rfl) (by decide) ?_
          refine ok_stI (kd := 336) (by decide) rfl (dd TX12_receipt_1 15 rfl) ?_
          refine ok_aload_n (dd TX12_receipt_1 16 rfl) 1 rfl ?_
          refine ok_dup (dd TX12_receipt_1 17 rfl) (by first | rfl | exact cat_rf _) ?_
          refine ok_gI fl_RX12_310 rfl (dd TX12_receipt_1 18 rfl) (fun v11 => ?_)
          refine ok_iconst (v := (1 : Int32)) (dd TX12_receipt_1 19 rfl) (by decide) ?_
          refine ok_iadd (dd TX12_receipt_1 20 rfl) ?_
          refine ok_wI fl_RX12_310 (Or.inl rfl) (tyX12_ok 32 (by decide)) (by decide) rfl (dd TX12_receipt_1 21 rfl) ?_
          refine ok_aload_n (dd TX12_receipt_1 22 rfl) 1 rfl ?_
          refine ok_gI fl_RX12_310 rfl (dd TX12_receipt_1 23 rfl) (fun v12 => ?_)
          refine ok_iconst (v := (1 : Int32)) (dd TX12_receipt_1 24 rfl) (by decide) ?_
          refine ok_isub (dd TX12_receipt_1 25 rfl) ?_
          exact ok_ireturn (dd TX12_receipt_1 26 rfl) rfl
        · refine ok_iconst (v := (-1 : Int32)) (dd TX12_receipt_0 23 rfl) (by decide) ?_
          exact ok_ireturn (dd TX12_receipt_0 24 rfl) rfl
def F_X12_notice_L184 (k128 : Nat → Int32 → Int32 → Int32 → Int32 → Int32 → Int32 → M Int32) (this : Nat) (x1 : Int32) (x2 : Int32) (x3 : Int32) (x4 : Int32) (x5 : Int32) (x6 : Int32) : M Int32 := k128 this x1 x2 x3 x4 x5 (x6 + (1 : Int32))
set_option maxRecDepth 100000 in
theorem O_X12_notice_L184 (Γ : Gam) (k128 : Nat → Int32 → Int32 → Int32 → Int32 → Int32 → Int32 → M Int32) (hk128 : ∀ (z0 : Nat) (z1 : Int32) (z2 : Int32) (z3 : Int32) (z4 : Int32) (z5 : Int32) (z6 : Int32), Ok Γ mX12_notice 2 (qo Γ vI) 128 [(0, va_rf (some z0)), (1, .int z1), (2, .int z2), (3, .int z3), (4, .int z4), (5, .int z5), (6, .int z6)] [] (k128 z0 z1 z2 z3 z4 z5 z6)) (this : Nat) (x1 : Int32) (x2 : Int32) (x3 : Int32) (x4 : Int32) (x5 : Int32) (x6 : Int32) : Ok Γ mX12_notice 2 (qo Γ vI) 184 [(0, va_rf (some this)), (1, .int x1), (2, .int x2), (3, .int x3), (4, .int x4), (5, .int x5), (6, .int x6)] [] (F_X12_notice_L184 k128 this x1 x2 x3 x4 x5 x6) := by
  unfold F_X12_notice_L184
  refine ok_iinc (lv' := [(6, .int (x6 + (1 : Int32))), (0, va_rf (some this)), (1, .int x1), (2, .int x2), (3, .int x3), (4, .int x4), (5, .int x5)]) (dd TX12_notice_2 29 rfl) 6 rfl (congrArg (fun q : Int32 => x6 + q) (show Int32.ofInt (1) = (1 : Int32) from by decide)) (by decide) (by first | rfl | (simp only [List.filter, cat_rf]; rfl)) ?_
  refine ok_goto (tgt := 128) (dd TX12_notice_2 30 rfl) (by decide) ?_
  refine ok_sub [1, 2, 3, 4, 5, 6, 0] rfl ?_
  exact hk128 this x1 x2 x3 x4 x5 (x6 + (1 : Int32))
def F_X12_notice_L128 : Nat → Nat → Int32 → Int32 → Int32 → Int32 → Int32 → Int32 → M Int32
  | 0 => fun _ _ _ _ _ _ _ => fl
  | n + 1 => fun this x1 x2 x3 x4 x5 x6 => bn (gI 12 34 (some this)) fun v19 => if v19 ≤ x6 then if x5 < x4 then bn (gI 12 34 (some this)) fun v20 => bn (gP 12 16 (some this)) fun v21 => bn (lI 248 v21 ((1600 : Int32) * x2)) fun v22 => bn (gP 12 33 (some this)) fun v23 => bn (stI 344 v23 ((7 : Int32) * v20) (1 : Int32)) fun _ => bn (gP 12 33 (some this)) fun v24 => bn (stI 344 v24 (((7 : Int32) * v20) + (1 : Int32)) v22) fun _ => bn (gP 12 33 (some this)) fun v25 => bn (stI 344 v25 (((7 : Int32) * v20) + (2 : Int32)) x1) fun _ => bn (gP 12 33 (some this)) fun v26 => bn (stI 344 v26 (((7 : Int32) * v20) + (3 : Int32)) x3) fun _ => bn (gP 12 33 (some this)) fun v27 => bn (stI 344 v27 (((7 : Int32) * v20) + (4 : Int32)) (0 : Int32)) fun _ => bn (gP 12 33 (some this)) fun v28 => bn (stI 344 v28 (((7 : Int32) * v20) + (5 : Int32)) x2) fun _ => bn (gP 12 33 (some this)) fun v29 => bn (stI 344 v29 (((7 : Int32) * v20) + (6 : Int32)) ((1 : Int32) <<< (v22 &&& 31))) fun _ => bn (gP 12 31 (some this)) fun v30 => bn (stI 336 v30 (((4 : Int32) * x3) + (3 : Int32)) (0 : Int32)) fun _ => bn (gI 12 34 (some this)) fun v31 => bn (wI 12 34 (some this) (v31 + (1 : Int32))) fun _ => bn (gI 12 34 (some this)) fun v32 => rt (v32 - (1 : Int32)) else rt (-1 : Int32) else bn (gP 12 33 (some this)) fun v33 => bn (lI 344 v33 ((7 : Int32) * x6)) fun v34 => if ¬ v34 = (1 : Int32) then F_X12_notice_L184 (F_X12_notice_L128 n) this x1 x2 x3 x4 x5 x6 else bn (gP 12 33 (some this)) fun v35 => bn (lI 344 v35 (((7 : Int32) * x6) + (2 : Int32))) fun v36 => if ¬ v36 = x1 then F_X12_notice_L184 (F_X12_notice_L128 n) this x1 x2 x3 x4 x5 x6 else bn (gP 12 33 (some this)) fun v37 => bn (lI 344 v37 (((7 : Int32) * x6) + (5 : Int32))) fun v38 => if ¬ v38 = x2 then F_X12_notice_L184 (F_X12_notice_L128 n) this x1 x2 x3 x4 x5 x6 else F_X12_notice_L184 (F_X12_notice_L128 n) this x1 x2 x3 x4 (x5 + (1 : Int32)) x6
set_option maxRecDepth 100000 in
theorem O_X12_notice_L128 (Γ : Gam) (n : Nat) : ∀ (this : Nat) (x1 : Int32) (x2 : Int32) (x3 : Int32) (x4 : Int32) (x5 : Int32) (x6 : Int32), Ok Γ mX12_notice 2 (qo Γ vI) 128 [(0, va_rf (some this)), (1, .int x1), (2, .int x2), (3, .int x3), (4, .int x4), (5, .int x5), (6, .int x6)] [] (F_X12_notice_L128 n this x1 x2 x3 x4 x5 x6) := by
  induction n with
  | zero => intro this x1 x2 x3 x4 x5 x6; exact ok_fl
  | succ n ih =>
    intro this x1 x2 x3 x4 x5 x6
    rw [F_X12_notice_L128]
    refine ok_iload (dd TX12_notice_1 38 rfl) 6 rfl ?_
    refine ok_aload_n (dd TX12_notice_1 39 rfl) 0 rfl ?_
    refine ok_gI fl_RX12_313 rfl (dd TX12_notice_2 0 rfl) (fun v19 => ?_)
    refine ok_icmp_ge (tgt := 190) (dd TX12_notice_2 1 rfl) (by decide) ?_ ?_
    · refine ok_iload (dd TX12_notice_2 31 rfl) 5 rfl ?_
      refine ok_iload (dd TX12_notice_2 32 rfl) 4 rfl ?_
      refine ok_icmp_lt (tgt := 199) (dd TX12_notice_2 33 rfl) (by decide) ?_ ?_
      · refine ok_bipush (v := (7 : Int32)) (dd TX12_notice_2 36 rfl) (by decide) ?_
        refine ok_aload_n (dd TX12_notice_2 37 rfl) 0 rfl ?_
        refine ok_gI fl_RX12_313 rfl (dd TX12_notice_2 38 rfl) (fun v20 => ?_)
        refine ok_imul (dd TX12_notice_2 39 rfl) ?_
        refine ok_istore (lv' := [(6, .int ((7 : Int32) * v20)), (0, va_rf (some this)), (1, .int x1), (2, .int x2), (3, .int x3), (4, .int x4), (5, .int x5)]) (dd TX12_notice_3 0 rfl) (by decide) (by first | rfl | (simp only [List.filter, cat_rf]; rfl)) ?_
        refine ok_aload_n (dd TX12_notice_3 1 rfl) 1 rfl ?_
        refine ok_gP fl_RX12_45 rfl (dd TX12_notice_3 2 rfl) (fun v21 => ?_)
        refine ok_sipush (v := (1600 : Int32)) (dd TX12_notice_3 3 rfl) (by decide) ?_
        refine ok_iload_n (dd TX12_notice_3 4 rfl) 3 rfl ?_
        refine ok_imul (dd TX12_notice_3 5 rfl) ?_
        refine ok_lI (kd := 248) (by decide) rfl (dd TX12_notice_3 6 rfl) (fun v22 => ?_)
        refine ok_istore (lv' := [(7, .int v22), (6, .int ((7 : Int32) * v20)), (0, va_rf (some this)), (1, .int x1), (2, .int x2), (3, .int x3), (4, .int x4), (5, .int x5)]) (dd TX12_notice_3 7 rfl) (by decide) (by first | rfl | (simp only [List.filter, cat_rf]; rfl)) ?_
        refine ok_aload_n (dd TX12_notice_3 8 rfl) 2 rfl ?_
        refine ok_gP fl_RX12_81 rfl (dd TX12_notice_3 9 rfl) (fun v23 => ?_)
        refine ok_iload (dd TX12_notice_3 10 rfl) 1 rfl ?_
        refine ok_iconst (v := (1 : Int32)) (dd TX12_notice_3 11 rfl) (by decide) ?_
        refine ok_stI (kd := 344) (by decide) rfl (dd TX12_notice_3 12 rfl) ?_
        refine ok_aload_n (dd TX12_notice_3 13 rfl) 2 rfl ?_
        refine ok_gP fl_RX12_81 rfl (dd TX12_notice_3 14 rfl) (fun v24 => ?_)
        refine ok_iload (dd TX12_notice_3 15 rfl) 1 rfl ?_
        refine ok_iconst (v := (1 : Int32)) (dd TX12_notice_3 16 rfl) (by decide) ?_
        refine ok_iadd (dd TX12_notice_3 17 rfl) ?_
        refine ok_iload (dd TX12_notice_3 18 rfl) 0 rfl ?_
        refine ok_stI (kd := 344) (by decide) rfl (dd TX12_notice_3 19 rfl) ?_
        refine ok_aload_n (dd TX12_notice_3 20 rfl) 2 rfl ?_
        refine ok_gP fl_RX12_81 rfl (dd TX12_notice_3 21 rfl) (fun v25 => ?_)
        refine ok_iload (dd TX12_notice_3 22 rfl) 1 rfl ?_
        refine ok_iconst (v := (2 : Int32)) (dd TX12_notice_3 23 rfl) (by decide) ?_
        refine ok_iadd (dd TX12_notice_3 24 rfl) ?_
        refine ok_iload_n (dd TX12_notice_3 25 rfl) 3 rfl ?_
        refine ok_stI (kd := 344) (by decide) rfl (dd TX12_notice_3 26 rfl) ?_
        refine ok_aload_n (dd TX12_notice_3 27 rfl) 2 rfl ?_
        refine ok_gP fl_RX12_81 rfl (dd TX12_notice_3 28 rfl) (fun v26 => ?_)
        refine ok_iload (dd TX12_notice_3 29 rfl) 1 rfl ?_
        refine ok_iconst (v := (3 : Int32)) (dd TX12_notice_3 30 rfl) (by decide) ?_
        refine ok_iadd (dd TX12_notice_3 31 rfl) ?_
        refine ok_iload_n (dd TX12_notice_3 32 rfl) 5 rfl ?_
        refine ok_stI (kd := 344) (by decide) rfl (dd TX12_notice_3 33 rfl) ?_
        refine ok_aload_n (dd TX12_notice_3 34 rfl) 2 rfl ?_
        refine ok_gP fl_RX12_81 rfl (dd TX12_notice_3 35 rfl) (fun v27 => ?_)
        refine ok_iload (dd TX12_notice_3 36 rfl) 1 rfl ?_
        refine ok_iconst (v := (4 : Int32)) (dd TX12_notice_3 37 rfl) (by decide) ?_
        refine ok_iadd (dd TX12_notice_3 38 rfl) ?_
        refine ok_iconst (v := (0 : Int32)) (dd TX12_notice_3 39 rfl) (by decide) ?_
        refine ok_stI (kd := 344) (by decide) rfl (dd TX12_notice_4 0 rfl) ?_
        refine ok_aload_n (dd TX12_notice_4 1 rfl) 2 rfl ?_
        refine ok_gP fl_RX12_81 rfl (dd TX12_notice_4 2 rfl) (fun v28 => ?_)
        refine ok_iload (dd TX12_notice_4 3 rfl) 1 rfl ?_
        refine ok_iconst (v := (5 : Int32)) (dd TX12_notice_4 4 rfl) (by decide) ?_
        refine ok_iadd (dd TX12_notice_4 5 rfl) ?_
        refine ok_iload_n (dd TX12_notice_4 6 rfl) 4 rfl ?_
        refine ok_stI (kd := 344) (by decide) rfl (dd TX12_notice_4 7 rfl) ?_
        refine ok_aload_n (dd TX12_notice_4 8 rfl) 2 rfl ?_
        refine ok_gP fl_RX12_81 rfl (dd TX12_notice_4 9 rfl) (fun v29 => ?_)
        refine ok_iload (dd TX12_notice_4 10 rfl) 1 rfl ?_
        refine ok_bipush (v := (6 : Int32)) (dd TX12_notice_4 11 rfl) (by decide) ?_
        refine ok_iadd (dd TX12_notice_4 12 rfl) ?_
        refine ok_iconst (v := (1 : Int32)) (dd TX12_notice_4 13 rfl) (by decide) ?_
        refine ok_iload (dd TX12_notice_4 14 rfl) 0 rfl ?_
        refine ok_ishl (dd TX12_notice_4 15 rfl) ?_
        refine ok_stI (kd := 344) (by decide) rfl (dd TX12_notice_4 16 rfl) ?_
        refine ok_aload_n (dd TX12_notice_4 17 rfl) 2 rfl ?_
        refine ok_gP fl_RX12_78 rfl (dd TX12_notice_4 18 rfl) (fun v30 => ?_)
        refine ok_iconst (v := (4 : Int32)) (dd TX12_notice_4 19 rfl) (by decide) ?_
        refine ok_iload_n (dd TX12_notice_4 20 rfl) 5 rfl ?_
        refine ok_imul (dd TX12_notice_4 21 rfl) ?_
        refine ok_iconst (v := (3 : Int32)) (dd TX12_notice_4 22 rfl) (by decide) ?_
        refine ok_iadd (dd TX12_notice_4 23 rfl) ?_
        refine ok_iconst (v := (0 : Int32)) (dd TX12_notice_4 24 rfl) (by decide) ?_
        refine ok_stI (kd := 336) (by decide) rfl (dd TX12_notice_4 25 rfl) ?_
        refine ok_aload_n (dd TX12_notice_4 26 rfl) 2 rfl ?_
        refine ok_dup (dd TX12_notice_4 27 rfl) (by first | rfl | exact cat_rf _) ?_
        refine ok_gI fl_RX12_313 rfl (dd TX12_notice_4 28 rfl) (fun v31 => ?_)
        refine ok_iconst (v := (1 : Int32)) (dd TX12_notice_4 29 rfl) (by decide) ?_
        refine ok_iadd (dd TX12_notice_4 30 rfl) ?_
        refine ok_wI fl_RX12_313 (Or.inl rfl) (tyX12_ok 34 (by decide)) (by decide) rfl (dd TX12_notice_4 31 rfl) ?_
        refine ok_aload_n (dd TX12_notice_4 32 rfl) 2 rfl ?_
        refine ok_gI fl_RX12_313 rfl (dd TX12_notice_4 33 rfl) (fun v32 => ?_)
        refine ok_iconst (v := (1 : Int32)) (dd TX12_notice_4 34 rfl) (by decide) ?_
        refine ok_isub (dd TX12_notice_4 35 rfl) ?_
        exact ok_ireturn (dd TX12_notice_4 36 rfl) rfl
      · refine ok_iconst (v := (-1 : Int32)) (dd TX12_notice_2 34 rfl) (by decide) ?_
        exact ok_ireturn (dd TX12_notice_2 35 rfl) rfl
    · refine ok_bipush (v := (7 : Int32)) (dd TX12_notice_2 2 rfl) (by decide) ?_
      refine ok_iload (dd TX12_notice_2 3 rfl) 6 rfl ?_
      refine ok_imul (dd TX12_notice_2 4 rfl) ?_
      refine ok_istore (lv' := [(7, .int ((7 : Int32) * x6)), (0, va_rf (some this)), (1, .int x1), (2, .int x2), (3, .int x3), (4, .int x4), (5, .int x5), (6, .int x6)]) (dd TX12_notice_2 5 rfl) (by decide) (by first | rfl | (simp only [List.filter, cat_rf]; rfl)) ?_
      refine ok_aload_n (dd TX12_notice_2 6 rfl) 1 rfl ?_
      refine ok_gP fl_RX12_81 rfl (dd TX12_notice_2 7 rfl) (fun v33 => ?_)
      refine ok_iload (dd TX12_notice_2 8 rfl) 0 rfl ?_
      refine ok_lI (kd := 344) (by decide) rfl (dd TX12_notice_2 9 rfl) (fun v34 => ?_)
      refine ok_iconst (v := (1 : Int32)) (dd TX12_notice_2 10 rfl) (by decide) ?_
      refine ok_icmp_ne (tgt := 184) (dd TX12_notice_2 11 rfl) (by decide) ?_ ?_
      · refine ok_sub [1, 2, 3, 4, 5, 6, 7] rfl ?_
        exact O_X12_notice_L184 Γ (F_X12_notice_L128 n) ih this x1 x2 x3 x4 x5 x6
      · refine ok_aload_n (dd TX12_notice_2 12 rfl) 1 rfl ?_
        refine ok_gP fl_RX12_81 rfl (dd TX12_notice_2 13 rfl) (fun v35 => ?_)
        refine ok_iload (dd TX12_notice_2 14 rfl) 0 rfl ?_
        refine ok_iconst (v := (2 : Int32)) (dd TX12_notice_2 15 rfl) (by decide) ?_
        refine ok_iadd (dd TX12_notice_2 16 rfl) ?_
        refine ok_lI (kd := 344) (by decide) rfl (dd TX12_notice_2 17 rfl) (fun v36 => ?_)
        refine ok_iload_n (dd TX12_notice_2 18 rfl) 2 rfl ?_
        refine ok_icmp_ne (tgt := 184) (dd TX12_notice_2 19 rfl) (by decide) ?_ ?_
        · refine ok_sub [1, 2, 3, 4, 5, 6, 7] rfl ?_
          exact O_X12_notice_L184 Γ (F_X12_notice_L128 n) ih this x1 x2 x3 x4 x5 x6
        · refine ok_aload_n (dd TX12_notice_2 20 rfl) 1 rfl ?_
          refine ok_gP fl_RX12_81 rfl (dd TX12_notice_2 21 rfl) (fun v37 => ?_)
          refine ok_iload (dd TX12_notice_2 22 rfl) 0 rfl ?_
          refine ok_iconst (v := (5 : Int32)) (dd TX12_notice_2 23 rfl) (by decide) ?_
          refine ok_iadd (dd TX12_notice_2 24 rfl) ?_
          refine ok_lI (kd := 344) (by decide) rfl (dd TX12_notice_2 25 rfl) (fun v38 => ?_)
          refine ok_iload_n (dd TX12_notice_2 26 rfl) 3 rfl ?_
          refine ok_icmp_ne (tgt := 184) (dd TX12_notice_2 27 rfl) (by decide) ?_ ?_
          · refine ok_sub [1, 2, 3, 4, 5, 6, 7] rfl ?_
            exact O_X12_notice_L184 Γ (F_X12_notice_L128 n) ih this x1 x2 x3 x4 x5 x6
          · refine ok_iinc (lv' := [(5, .int (x5 + (1 : Int32))), (7, .int ((7 : Int32) * x6)), (0, va_rf (some this)), (1, .int x1), (2, .int x2), (3, .int x3), (4, .int x4), (6, .int x6)]) (dd TX12_notice_2 28 rfl) 6 rfl (congrArg (fun q : Int32 => x5 + q) (show Int32.ofInt (1) = (1 : Int32) from by decide)) (by decide) (by first | rfl | (simp only [List.filter, cat_rf]; rfl)) ?_
            refine ok_sub [2, 3, 4, 5, 6, 0, 7] rfl ?_
            exact O_X12_notice_L184 Γ (F_X12_notice_L128 n) ih this x1 x2 x3 x4 (x5 + (1 : Int32)) x6
def F_X12_notice (this : Nat) (p0 : Int32) (p1 : Int32) (p2 : Int32) : M Int32 := bn (wI 12 35 (some this) (0 : Int32)) fun _ => bn (pRc 12 (some this)) fun b1 => bn (F_X12_isMember b1 p0) fun v2 => if v2 = 0 then rt (-1 : Int32) else bn (F_X12_isMonth p1) fun v3 => if v3 = 0 then rt (-1 : Int32) else bn (gI 12 32 (some this)) fun v4 => bn (F_X12_in p2.toInt64 (0 : Int64) ((v4 - (1 : Int32)).toInt64)) fun v5 => if v5 = 0 then rt (-1 : Int32) else bn (gI 12 34 (some this)) fun v6 => if ¬ v6 = (80 : Int32) then bn (gP 12 14 (some this)) fun v7 => bn (lI 232 v7 (((6 : Int32) * p0) + p1)) fun v8 => if (-v8) ≤ 0 then rt (-1 : Int32) else bn (gP 12 19 (some this)) fun v9 => bn (lI 274 v9 p1) fun v10 => if v10 = 0 then rt (-1 : Int32) else bn (pRc 12 (some this)) fun b11 => bn (F_X12_latest b11 p1) fun v12 => if v12 = (-1 : Int32) then rt (-1 : Int32) else bn (gP 12 31 (some this)) fun v13 => bn (lI 336 v13 (((4 : Int32) * p2) + (2 : Int32))) fun v14 => if ¬ v14 = p0 then rt (-1 : Int32) else bn (gP 12 31 (some this)) fun v15 => bn (lI 336 v15 (((4 : Int32) * p2) + (3 : Int32))) fun v16 => if v16 = 0 then rt (-1 : Int32) else bn (gP 12 18 (some this)) fun v17 => bn (lI 264 v17 p1) fun v18 => if ¬ v18 = 0 then F_X12_notice_L128 FU this p0 p1 p2 (-v8) (0 : Int32) (0 : Int32) else rt (-1 : Int32) else rt (-1 : Int32)
set_option maxRecDepth 100000 in
theorem C_X12_notice (Γ : Gam) (this : Nat) (p0 : Int32) (p1 : Int32) (p2 : Int32) : Ct Γ mX12_notice 2 vI [va_rf (some this), .int p0, .int p1, .int p2] (F_X12_notice this p0 p1 p2) := by
  refine ct_in (lv := [(0, va_rf (some this)), (1, .int p0), (2, .int p1), (3, .int p2)]) (by decide) (by first | rfl | (simp only [lv_args, cat_rf]; rfl)) (by first | exact Nat.le_of_ble_eq_true rfl | (rw [lg_len]; simp only [List.map_cons, List.map_nil, cat_rf]; exact Nat.le_of_ble_eq_true rfl)) ?_
  unfold F_X12_notice
  refine ok_aload_n (dd TX12_notice_0 0 rfl) 0 rfl ?_
  refine ok_iconst (v := (0 : Int32)) (dd TX12_notice_0 1 rfl) (by decide) ?_
  refine ok_wI fl_RX12_90 (Or.inl rfl) (tyX12_ok 35 (by decide)) (by decide) rfl (dd TX12_notice_0 2 rfl) ?_
  refine ok_aload_n (dd TX12_notice_0 3 rfl) 0 rfl ?_
  refine ok_iload_n (dd TX12_notice_0 4 rfl) 1 rfl ?_
  refine ok_callVI (cn := 12) [.int p0] [] (fun b1 => C_X12_isMember Γ b1 p0) rfl cy_X12_isMember ml_RX12_252 im_X12_isMember se_X12_isMember (by decide) (Nat.le_of_ble_eq_true rfl) rfl (dd TX12_notice_0 5 rfl) (fun v2 => ?_)
  refine ok_if_eq (tgt := 45) (dd TX12_notice_0 6 rfl) (by decide) ?_ ?_
  · refine ok_iconst (v := (-1 : Int32)) (dd TX12_notice_0 24 rfl) (by decide) ?_
    exact ok_ireturn (dd TX12_notice_0 25 rfl) rfl
  · refine ok_iload_n (dd TX12_notice_0 7 rfl) 2 rfl ?_
    refine ok_callSI [.int p1] [] (C_X12_isMonth Γ p1) cy_X12_isMonth ml_RX12_255 sm_X12_isMonth (by decide) (Nat.le_of_ble_eq_true rfl) rfl (dd TX12_notice_0 8 rfl) (fun v3 => ?_)
    refine ok_if_eq (tgt := 45) (dd TX12_notice_0 9 rfl) (by decide) ?_ ?_
    · refine ok_iconst (v := (-1 : Int32)) (dd TX12_notice_0 24 rfl) (by decide) ?_
      exact ok_ireturn (dd TX12_notice_0 25 rfl) rfl
    · refine ok_iload_n (dd TX12_notice_0 10 rfl) 3 rfl ?_
      refine ok_i2l (dd TX12_notice_0 11 rfl) ?_
      refine ok_lconst (v := (0 : Int64)) (dd TX12_notice_0 12 rfl) (by decide) ?_
      refine ok_aload_n (dd TX12_notice_0 13 rfl) 0 rfl ?_
      refine ok_gI fl_RX12_310 rfl (dd TX12_notice_0 14 rfl) (fun v4 => ?_)
      refine ok_iconst (v := (1 : Int32)) (dd TX12_notice_0 15 rfl) (by decide) ?_
      refine ok_isub (dd TX12_notice_0 16 rfl) ?_
      refine ok_i2l (dd TX12_notice_0 17 rfl) ?_
      refine ok_callSI [.long p2.toInt64, .long (0 : Int64), .long ((v4 - (1 : Int32)).toInt64)] [] (C_X12_in Γ p2.toInt64 (0 : Int64) ((v4 - (1 : Int32)).toInt64)) cy_X12_in ml_RX12_97 sm_X12_in (by decide) (Nat.le_of_ble_eq_true rfl) rfl (dd TX12_notice_0 18 rfl) (fun v5 => ?_)
      refine ok_if_eq (tgt := 45) (dd TX12_notice_0 19 rfl) (by decide) ?_ ?_
      · refine ok_iconst (v := (-1 : Int32)) (dd TX12_notice_0 24 rfl) (by decide) ?_
        exact ok_ireturn (dd TX12_notice_0 25 rfl) rfl
      · refine ok_aload_n (dd TX12_notice_0 20 rfl) 0 rfl ?_
        refine ok_gI fl_RX12_313 rfl (dd TX12_notice_0 21 rfl) (fun v6 => ?_)
        refine ok_bipush (v := (80 : Int32)) (dd TX12_notice_0 22 rfl) (by decide) ?_
        refine ok_icmp_ne (tgt := 47) (dd TX12_notice_0 23 rfl) (by decide) ?_ ?_
        · refine ok_aload_n (dd TX12_notice_0 26 rfl) 0 rfl ?_
          refine ok_gP fl_RX12_39 rfl (dd TX12_notice_0 27 rfl) (fun v7 => ?_)
          refine ok_bipush (v := (6 : Int32)) (dd TX12_notice_0 28 rfl) (by decide) ?_
          refine ok_iload_n (dd TX12_notice_0 29 rfl) 1 rfl ?_
          refine ok_imul (dd TX12_notice_0 30 rfl) ?_
          refine ok_iload_n (dd TX12_notice_0 31 rfl) 2 rfl ?_
          refine ok_iadd (dd TX12_notice_0 32 rfl) ?_
          refine ok_lI (kd := 232) (by decide) rfl (dd TX12_notice_0 33 rfl) (fun v8 => ?_)
          refine ok_ineg (dd TX12_notice_0 34 rfl) ?_
          refine ok_istore (lv' := [(4, .int (-v8)), (0, va_rf (some this)), (1, .int p0), (2, .int p1), (3, .int p2)]) (dd TX12_notice_0 35 rfl) (by decide) (by first | rfl | (simp only [List.filter, cat_rf]; rfl)) ?_
          refine ok_iload (dd TX12_notice_0 36 rfl) 0 rfl ?_
          refine ok_if_le (tgt := 120) (dd TX12_notice_0 37 rfl) (by decide) ?_ ?_
          · refine ok_iconst (v := (-1 : Int32)) (dd TX12_notice_1 32 rfl) (by decide) ?_
            exact ok_ireturn (dd TX12_notice_1 33 rfl) rfl
          · refine ok_aload_n (dd TX12_notice_0 38 rfl) 1 rfl ?_
            refine ok_gP fl_RX12_54 rfl (dd TX12_notice_0 39 rfl) (fun v9 => ?_)
            refine ok_iload_n (dd TX12_notice_1 0 rfl) 3 rfl ?_
            refine ok_lZ (kd := 274) (by decide) rfl (dd TX12_notice_1 1 rfl) (fun v10 => ?_)
            refine ok_if_eq (tgt := 120) (dd TX12_notice_1 2 rfl) (by decide) ?_ ?_
            · refine ok_iconst (v := (-1 : Int32)) (dd TX12_notice_1 32 rfl) (by decide) ?_
              exact ok_ireturn (dd TX12_notice_1 33 rfl) rfl
            · refine ok_aload_n (dd TX12_notice_1 3 rfl) 1 rfl ?_
              refine ok_iload_n (dd TX12_notice_1 4 rfl) 3 rfl ?_
              refine ok_callVI (cn := 12) [.int p1] [] (fun b11 => C_X12_latest Γ b11 p1) rfl cy_X12_latest ml_RX12_262 im_X12_latest se_X12_latest (by decide) (Nat.le_of_ble_eq_true rfl) rfl (dd TX12_notice_1 5 rfl) (fun v12 => ?_)
              refine ok_iconst (v := (-1 : Int32)) (dd TX12_notice_1 6 rfl) (by decide) ?_
              refine ok_icmp_eq (tgt := 120) (dd TX12_notice_1 7 rfl) (by decide) ?_ ?_
              · refine ok_iconst (v := (-1 : Int32)) (dd TX12_notice_1 32 rfl) (by decide) ?_
                exact ok_ireturn (dd TX12_notice_1 33 rfl) rfl
              · refine ok_aload_n (dd TX12_notice_1 8 rfl) 1 rfl ?_
                refine ok_gP fl_RX12_78 rfl (dd TX12_notice_1 9 rfl) (fun v13 => ?_)
                refine ok_iconst (v := (4 : Int32)) (dd TX12_notice_1 10 rfl) (by decide) ?_
                refine ok_iload_n (dd TX12_notice_1 11 rfl) 4 rfl ?_
                refine ok_imul (dd TX12_notice_1 12 rfl) ?_
                refine ok_iconst (v := (2 : Int32)) (dd TX12_notice_1 13 rfl) (by decide) ?_
                refine ok_iadd (dd TX12_notice_1 14 rfl) ?_
                refine ok_lI (kd := 336) (by decide) rfl (dd TX12_notice_1 15 rfl) (fun v14 => ?_)
                refine ok_iload_n (dd TX12_notice_1 16 rfl) 2 rfl ?_
                refine ok_icmp_ne (tgt := 120) (dd TX12_notice_1 17 rfl) (by decide) ?_ ?_
                · refine ok_iconst (v := (-1 : Int32)) (dd TX12_notice_1 32 rfl) (by decide) ?_
                  exact ok_ireturn (dd TX12_notice_1 33 rfl) rfl
                · refine ok_aload_n (dd TX12_notice_1 18 rfl) 1 rfl ?_
                  refine ok_gP fl_RX12_78 rfl (dd TX12_notice_1 19 rfl) (fun v15 => ?_)
                  refine ok_iconst (v := (4 : Int32)) (dd TX12_notice_1 20 rfl) (by decide) ?_
                  refine ok_iload_n (dd TX12_notice_1 21 rfl) 4 rfl ?_
                  refine ok_imul (dd TX12_notice_1 22 rfl) ?_
                  refine ok_iconst (v := (3 : Int32)) (dd TX12_notice_1 23 rfl) (by decide) ?_
                  refine ok_iadd (dd TX12_notice_1 24 rfl) ?_
                  refine ok_lI (kd := 336) (by decide) rfl (dd TX12_notice_1 25 rfl) (fun v16 => ?_)
                  refine ok_if_eq (tgt := 120) (dd TX12_notice_1 26 rfl) (by decide) ?_ ?_
                  · refine ok_iconst (v := (-1 : Int32)) (dd TX12_notice_1 32 rfl) (by decide) ?_
                    exact ok_ireturn (dd TX12_notice_1 33 rfl) rfl
                  · refine ok_aload_n (dd TX12_notice_1 27 rfl) 1 rfl ?_
                    refine ok_gP fl_RX12_51 rfl (dd TX12_notice_1 28 rfl) (fun v17 => ?_)
                    refine ok_iload_n (dd TX12_notice_1 29 rfl) 3 rfl ?_
                    refine ok_lI (kd := 264) (by decide) rfl (dd TX12_notice_1 30 rfl) (fun v18 => ?_)
                    refine ok_if_ne (tgt := 122) (dd TX12_notice_1 31 rfl) (by decide) ?_ ?_
                    · refine ok_iconst (v := (0 : Int32)) (dd TX12_notice_1 34 rfl) (by decide) ?_
                      refine ok_istore (lv' := [(5, .int (0 : Int32)), (4, .int (-v8)), (0, va_rf (some this)), (1, .int p0), (2, .int p1), (3, .int p2)]) (dd TX12_notice_1 35 rfl) (by decide) (by first | rfl | (simp only [List.filter, cat_rf]; rfl)) ?_
                      refine ok_iconst (v := (0 : Int32)) (dd TX12_notice_1 36 rfl) (by decide) ?_
                      refine ok_istore (lv' := [(6, .int (0 : Int32)), (5, .int (0 : Int32)), (4, .int (-v8)), (0, va_rf (some this)), (1, .int p0), (2, .int p1), (3, .int p2)]) (dd TX12_notice_1 37 rfl) (by decide) (by first | rfl | (simp only [List.filter, cat_rf]; rfl)) ?_
                      refine ok_sub [3, 4, 5, 6, 2, 1, 0] rfl ?_
                      exact O_X12_notice_L128 Γ FU this p0 p1 p2 (-v8) (0 : Int32) (0 : Int32)
                    · refine ok_iconst (v := (-1 : Int32)) (dd TX12_notice_1 32 rfl) (by decide) ?_
                      exact ok_ireturn (dd TX12_notice_1 33 rfl) rfl
        · refine ok_iconst (v := (-1 : Int32)) (dd TX12_notice_0 24 rfl) (by decide) ?_
          exact ok_ireturn (dd TX12_notice_0 25 rfl) rfl
def F_X12_isHeld (this : Nat) (p0 : Int32) : M Int32 := bn (gI 12 34 (some this)) fun v1 => bn (F_X12_in p0.toInt64 (0 : Int64) ((v1 - (1 : Int32)).toInt64)) fun v2 => if v2 = 0 then rz (0 : Int32) else bn (gP 12 33 (some this)) fun v3 => bn (lI 344 v3 ((7 : Int32) * p0)) fun v4 => if ¬ v4 = (1 : Int32) then rz (0 : Int32) else rz (1 : Int32)
set_option maxRecDepth 100000 in
theorem C_X12_isHeld (Γ : Gam) (this : Nat) (p0 : Int32) : Ct Γ mX12_isHeld 1 vI [va_rf (some this), .int p0] (F_X12_isHeld this p0) := by
  refine ct_in (lv := [(0, va_rf (some this)), (1, .int p0)]) (by decide) (by first | rfl | (simp only [lv_args, cat_rf]; rfl)) (by first | exact Nat.le_of_ble_eq_true rfl | (rw [lg_len]; simp only [List.map_cons, List.map_nil, cat_rf]; exact Nat.le_of_ble_eq_true rfl)) ?_
  unfold F_X12_isHeld
  refine ok_iload_n (dd TX12_isHeld_0 0 rfl) 1 rfl ?_
  refine ok_i2l (dd TX12_isHeld_0 1 rfl) ?_
  refine ok_lconst (v := (0 : Int64)) (dd TX12_isHeld_0 2 rfl) (by decide) ?_
  refine ok_aload_n (dd TX12_isHeld_0 3 rfl) 0 rfl ?_
  refine ok_gI fl_RX12_313 rfl (dd TX12_isHeld_0 4 rfl) (fun v1 => ?_)
  refine ok_iconst (v := (1 : Int32)) (dd TX12_isHeld_0 5 rfl) (by decide) ?_
  refine ok_isub (dd TX12_isHeld_0 6 rfl) ?_
  refine ok_i2l (dd TX12_isHeld_0 7 rfl) ?_
  refine ok_callSI [.long p0.toInt64, .long (0 : Int64), .long ((v1 - (1 : Int32)).toInt64)] [] (C_X12_in Γ p0.toInt64 (0 : Int64) ((v1 - (1 : Int32)).toInt64)) cy_X12_in ml_RX12_97 sm_X12_in (by decide) (Nat.le_of_ble_eq_true rfl) rfl (dd TX12_isHeld_0 8 rfl) (fun v2 => ?_)
  refine ok_if_eq (tgt := 33) (dd TX12_isHeld_0 9 rfl) (by decide) ?_ ?_
  · refine ok_iconst (v := (0 : Int32)) (dd TX12_isHeld_0 20 rfl) (by decide) ?_
    exact ok_zreturn (dd TX12_isHeld_0 21 rfl) rfl
  · refine ok_aload_n (dd TX12_isHeld_0 10 rfl) 0 rfl ?_
    refine ok_gP fl_RX12_81 rfl (dd TX12_isHeld_0 11 rfl) (fun v3 => ?_)
    refine ok_bipush (v := (7 : Int32)) (dd TX12_isHeld_0 12 rfl) (by decide) ?_
    refine ok_iload_n (dd TX12_isHeld_0 13 rfl) 1 rfl ?_
    refine ok_imul (dd TX12_isHeld_0 14 rfl) ?_
    refine ok_lI (kd := 344) (by decide) rfl (dd TX12_isHeld_0 15 rfl) (fun v4 => ?_)
    refine ok_iconst (v := (1 : Int32)) (dd TX12_isHeld_0 16 rfl) (by decide) ?_
    refine ok_icmp_ne (tgt := 33) (dd TX12_isHeld_0 17 rfl) (by decide) ?_ ?_
    · refine ok_iconst (v := (0 : Int32)) (dd TX12_isHeld_0 20 rfl) (by decide) ?_
      exact ok_zreturn (dd TX12_isHeld_0 21 rfl) rfl
    · refine ok_iconst (v := (1 : Int32)) (dd TX12_isHeld_0 18 rfl) (by decide) ?_
      refine ok_goto (tgt := 34) (dd TX12_isHeld_0 19 rfl) (by decide) ?_
      exact ok_zreturn (dd TX12_isHeld_0 21 rfl) rfl
def F_X12_told (this : Nat) (p0 : Int32) (p1 : Int32) : M Int32 := bn (wI 12 35 (some this) (0 : Int32)) fun _ => bn (gI 12 34 (some this)) fun v1 => bn (F_X12_in p0.toInt64 (0 : Int64) ((v1 - (1 : Int32)).toInt64)) fun v2 => if v2 = 0 then rt (-1 : Int32) else bn (F_X12_in p1.toInt64 (0 : Int64) (5 : Int64)) fun v3 => if v3 = 0 then rt (-1 : Int32) else bn (gP 12 33 (some this)) fun v4 => bn (lI 344 v4 (((7 : Int32) * p0) + p1)) fun v5 => rt v5
set_option maxRecDepth 100000 in
theorem C_X12_told (Γ : Gam) (this : Nat) (p0 : Int32) (p1 : Int32) : Ct Γ mX12_told 1 vI [va_rf (some this), .int p0, .int p1] (F_X12_told this p0 p1) := by
  refine ct_in (lv := [(0, va_rf (some this)), (1, .int p0), (2, .int p1)]) (by decide) (by first | rfl | (simp only [lv_args, cat_rf]; rfl)) (by first | exact Nat.le_of_ble_eq_true rfl | (rw [lg_len]; simp only [List.map_cons, List.map_nil, cat_rf]; exact Nat.le_of_ble_eq_true rfl)) ?_
  unfold F_X12_told
  refine ok_aload_n (dd TX12_told_0 0 rfl) 0 rfl ?_
  refine ok_iconst (v := (0 : Int32)) (dd TX12_told_0 1 rfl) (by decide) ?_
  refine ok_wI fl_RX12_90 (Or.inl rfl) (tyX12_ok 35 (by decide)) (by decide) rfl (dd TX12_told_0 2 rfl) ?_
  refine ok_iload_n (dd TX12_told_0 3 rfl) 1 rfl ?_
  refine ok_i2l (dd TX12_told_0 4 rfl) ?_
  refine ok_lconst (v := (0 : Int64)) (dd TX12_told_0 5 rfl) (by decide) ?_
  refine ok_aload_n (dd TX12_told_0 6 rfl) 0 rfl ?_
  refine ok_gI fl_RX12_313 rfl (dd TX12_told_0 7 rfl) (fun v1 => ?_)
  refine ok_iconst (v := (1 : Int32)) (dd TX12_told_0 8 rfl) (by decide) ?_
  refine ok_isub (dd TX12_told_0 9 rfl) ?_
  refine ok_i2l (dd TX12_told_0 10 rfl) ?_
  refine ok_callSI [.long p0.toInt64, .long (0 : Int64), .long ((v1 - (1 : Int32)).toInt64)] [] (C_X12_in Γ p0.toInt64 (0 : Int64) ((v1 - (1 : Int32)).toInt64)) cy_X12_in ml_RX12_97 sm_X12_in (by decide) (Nat.le_of_ble_eq_true rfl) rfl (dd TX12_told_0 11 rfl) (fun v2 => ?_)
  refine ok_if_eq (tgt := 47) (dd TX12_told_0 12 rfl) (by decide) ?_ ?_
  · refine ok_iconst (v := (-1 : Int32)) (dd TX12_told_0 28 rfl) (by decide) ?_
    exact ok_ireturn (dd TX12_told_0 29 rfl) rfl
  · refine ok_iload_n (dd TX12_told_0 13 rfl) 2 rfl ?_
    refine ok_i2l (dd TX12_told_0 14 rfl) ?_
    refine ok_lconst (v := (0 : Int64)) (dd TX12_told_0 15 rfl) (by decide) ?_
    refine ok_ldc2 (v := (5 : Int64)) (dd TX12_told_0 16 rfl) cl2_RX12_101 ?_
    refine ok_callSI [.long p1.toInt64, .long (0 : Int64), .long (5 : Int64)] [] (C_X12_in Γ p1.toInt64 (0 : Int64) (5 : Int64)) cy_X12_in ml_RX12_97 sm_X12_in (by decide) (Nat.le_of_ble_eq_true rfl) rfl (dd TX12_told_0 17 rfl) (fun v3 => ?_)
    refine ok_if_eq (tgt := 47) (dd TX12_told_0 18 rfl) (by decide) ?_ ?_
    · refine ok_iconst (v := (-1 : Int32)) (dd TX12_told_0 28 rfl) (by decide) ?_
      exact ok_ireturn (dd TX12_told_0 29 rfl) rfl
    · refine ok_aload_n (dd TX12_told_0 19 rfl) 0 rfl ?_
      refine ok_gP fl_RX12_81 rfl (dd TX12_told_0 20 rfl) (fun v4 => ?_)
      refine ok_bipush (v := (7 : Int32)) (dd TX12_told_0 21 rfl) (by decide) ?_
      refine ok_iload_n (dd TX12_told_0 22 rfl) 1 rfl ?_
      refine ok_imul (dd TX12_told_0 23 rfl) ?_
      refine ok_iload_n (dd TX12_told_0 24 rfl) 2 rfl ?_
      refine ok_iadd (dd TX12_told_0 25 rfl) ?_
      refine ok_lI (kd := 344) (by decide) rfl (dd TX12_told_0 26 rfl) (fun v5 => ?_)
      refine ok_goto (tgt := 48) (dd TX12_told_0 27 rfl) (by decide) ?_
      exact ok_ireturn (dd TX12_told_0 29 rfl) rfl
def F_X12_stored (this : Nat) (p0 : Int32) (p1 : Int32) : M Int32 := bn (wI 12 35 (some this) (0 : Int32)) fun _ => bn (gI 12 32 (some this)) fun v1 => bn (F_X12_in p0.toInt64 (0 : Int64) ((v1 - (1 : Int32)).toInt64)) fun v2 => if v2 = 0 then rt (-1 : Int32) else bn (F_X12_in p1.toInt64 (0 : Int64) (3 : Int64)) fun v3 => if v3 = 0 then rt (-1 : Int32) else bn (gP 12 31 (some this)) fun v4 => bn (lI 336 v4 (((4 : Int32) * p0) + p1)) fun v5 => rt v5
set_option maxRecDepth 100000 in
theorem C_X12_stored (Γ : Gam) (this : Nat) (p0 : Int32) (p1 : Int32) : Ct Γ mX12_stored 1 vI [va_rf (some this), .int p0, .int p1] (F_X12_stored this p0 p1) := by
  refine ct_in (lv := [(0, va_rf (some this)), (1, .int p0), (2, .int p1)]) (by decide) (by first | rfl | (simp only [lv_args, cat_rf]; rfl)) (by first | exact Nat.le_of_ble_eq_true rfl | (rw [lg_len]; simp only [List.map_cons, List.map_nil, cat_rf]; exact Nat.le_of_ble_eq_true rfl)) ?_
  unfold F_X12_stored
  refine ok_aload_n (dd TX12_stored_0 0 rfl) 0 rfl ?_
  refine ok_iconst (v := (0 : Int32)) (dd TX12_stored_0 1 rfl) (by decide) ?_
  refine ok_wI fl_RX12_90 (Or.inl rfl) (tyX12_ok 35 (by decide)) (by decide) rfl (dd TX12_stored_0 2 rfl) ?_
  refine ok_iload_n (dd TX12_stored_0 3 rfl) 1 rfl ?_
  refine ok_i2l (dd TX12_stored_0 4 rfl) ?_
  refine ok_lconst (v := (0 : Int64)) (dd TX12_stored_0 5 rfl) (by decide) ?_
  refine ok_aload_n (dd TX12_stored_0 6 rfl) 0 rfl ?_
  refine ok_gI fl_RX12_310 rfl (dd TX12_stored_0 7 rfl) (fun v1 => ?_)
  refine ok_iconst (v := (1 : Int32)) (dd TX12_stored_0 8 rfl) (by decide) ?_
  refine ok_isub (dd TX12_stored_0 9 rfl) ?_
  refine ok_i2l (dd TX12_stored_0 10 rfl) ?_
  refine ok_callSI [.long p0.toInt64, .long (0 : Int64), .long ((v1 - (1 : Int32)).toInt64)] [] (C_X12_in Γ p0.toInt64 (0 : Int64) ((v1 - (1 : Int32)).toInt64)) cy_X12_in ml_RX12_97 sm_X12_in (by decide) (Nat.le_of_ble_eq_true rfl) rfl (dd TX12_stored_0 11 rfl) (fun v2 => ?_)
  refine ok_if_eq (tgt := 46) (dd TX12_stored_0 12 rfl) (by decide) ?_ ?_
  · refine ok_iconst (v := (-1 : Int32)) (dd TX12_stored_0 28 rfl) (by decide) ?_
    exact ok_ireturn (dd TX12_stored_0 29 rfl) rfl
  · refine ok_iload_n (dd TX12_stored_0 13 rfl) 2 rfl ?_
    refine ok_i2l (dd TX12_stored_0 14 rfl) ?_
    refine ok_lconst (v := (0 : Int64)) (dd TX12_stored_0 15 rfl) (by decide) ?_
    refine ok_ldc2 (v := (3 : Int64)) (dd TX12_stored_0 16 rfl) cl2_RX12_316 ?_
    refine ok_callSI [.long p1.toInt64, .long (0 : Int64), .long (3 : Int64)] [] (C_X12_in Γ p1.toInt64 (0 : Int64) (3 : Int64)) cy_X12_in ml_RX12_97 sm_X12_in (by decide) (Nat.le_of_ble_eq_true rfl) rfl (dd TX12_stored_0 17 rfl) (fun v3 => ?_)
    refine ok_if_eq (tgt := 46) (dd TX12_stored_0 18 rfl) (by decide) ?_ ?_
    · refine ok_iconst (v := (-1 : Int32)) (dd TX12_stored_0 28 rfl) (by decide) ?_
      exact ok_ireturn (dd TX12_stored_0 29 rfl) rfl
    · refine ok_aload_n (dd TX12_stored_0 19 rfl) 0 rfl ?_
      refine ok_gP fl_RX12_78 rfl (dd TX12_stored_0 20 rfl) (fun v4 => ?_)
      refine ok_iconst (v := (4 : Int32)) (dd TX12_stored_0 21 rfl) (by decide) ?_
      refine ok_iload_n (dd TX12_stored_0 22 rfl) 1 rfl ?_
      refine ok_imul (dd TX12_stored_0 23 rfl) ?_
      refine ok_iload_n (dd TX12_stored_0 24 rfl) 2 rfl ?_
      refine ok_iadd (dd TX12_stored_0 25 rfl) ?_
      refine ok_lI (kd := 336) (by decide) rfl (dd TX12_stored_0 26 rfl) (fun v5 => ?_)
      refine ok_goto (tgt := 47) (dd TX12_stored_0 27 rfl) (by decide) ?_
      exact ok_ireturn (dd TX12_stored_0 29 rfl) rfl
