def F_X12_rule_L29 (this : Nat) : M Int32 := bn (wI 12 35 (some this) (1 : Int32)) fun _ => rt (0 : Int32)
set_option maxRecDepth 100000 in
theorem O_X12_rule_L29 (Γ : Gam) (this : Nat) : Ok Γ mX12_rule 102 (qo Γ vI) 29 [(0, va_rf (some this))] [] (F_X12_rule_L29 this) := by
  unfold F_X12_rule_L29
  refine ok_aload_n (dd TX12_rule_0 15 rfl) 0 rfl ?_
  refine ok_iconst (v := (1 : Int32)) (dd TX12_rule_0 16 rfl) (by decide) ?_
  refine ok_wI fl_RX12_90 (Or.inl rfl) (tyX12_ok 35 (by decide)) (by decide) rfl (dd TX12_rule_0 17 rfl) ?_
  refine ok_iconst (v := (0 : Int32)) (dd TX12_rule_0 18 rfl) (by decide) ?_
  exact ok_ireturn (dd TX12_rule_0 19 rfl) rfl
def F_X12_rule (this : Nat) (p0 : Int32) (p1 : Int32) (p2 : Int32) (p3 : Int32) (p4 : Int32) (p5 : Int32) (p6 : Int32) : M Int32 := bn (wI 12 35 (some this) (0 : Int32)) fun _ => bn (F_X12_in p0.toInt64 (0 : Int64) (5 : Int64)) fun v1 => if v1 = 0 then F_X12_rule_L29 this else bn (F_X12_in p1.toInt64 (0 : Int64) (150 : Int64)) fun v2 => if ¬ v2 = 0 then bn (pRc 12 (some this)) fun b3 => bn (F_X12_ruleOf b3 p0 p1 p2 p3 p4 p5 p6) fun v4 => rt v4 else F_X12_rule_L29 this
set_option maxRecDepth 100000 in
theorem C_X12_rule (Γ : Gam) (this : Nat) (p0 : Int32) (p1 : Int32) (p2 : Int32) (p3 : Int32) (p4 : Int32) (p5 : Int32) (p6 : Int32) : Ct Γ mX12_rule 102 vI [va_rf (some this), .int p0, .int p1, .int p2, .int p3, .int p4, .int p5, .int p6] (F_X12_rule this p0 p1 p2 p3 p4 p5 p6) := by
  refine ct_in (lv := [(0, va_rf (some this)), (1, .int p0), (2, .int p1), (3, .int p2), (4, .int p3), (5, .int p4), (6, .int p5), (7, .int p6)]) (by decide) (by first | rfl | (simp only [lv_args, cat_rf]; rfl)) (by first | exact Nat.le_of_ble_eq_true rfl | (rw [lg_len]; simp only [List.map_cons, List.map_nil, cat_rf]; exact Nat.le_of_ble_eq_true rfl)) ?_
  unfold F_X12_rule
  refine ok_aload_n (dd TX12_rule_0 0 rfl) 0 rfl ?_
  refine ok_iconst (v := (0 : Int32)) (dd TX12_rule_0 1 rfl) (by decide) ?_
  refine ok_wI fl_RX12_90 (Or.inl rfl) (tyX12_ok 35 (by decide)) (by decide) rfl (dd TX12_rule_0 2 rfl) ?_
  refine ok_iload_n (dd TX12_rule_0 3 rfl) 1 rfl ?_
  refine ok_i2l (dd TX12_rule_0 4 rfl) ?_
  refine ok_lconst (v := (0 : Int64)) (dd TX12_rule_0 5 rfl) (by decide) ?_
  refine ok_ldc2 (v := (5 : Int64)) (dd TX12_rule_0 6 rfl) cl2_RX12_101 ?_
  refine ok_callSI [.long p0.toInt64, .long (0 : Int64), .long (5 : Int64)] [] (C_X12_in Γ p0.toInt64 (0 : Int64) (5 : Int64)) cy_X12_in ml_RX12_97 sm_X12_in (by decide) (Nat.le_of_ble_eq_true rfl) rfl (dd TX12_rule_0 7 rfl) (fun v1 => ?_)
  refine ok_if_eq (tgt := 29) (dd TX12_rule_0 8 rfl) (by decide) ?_ ?_
  · refine ok_sub [0] rfl ?_
    exact O_X12_rule_L29 Γ this
  · refine ok_iload_n (dd TX12_rule_0 9 rfl) 2 rfl ?_
    refine ok_i2l (dd TX12_rule_0 10 rfl) ?_
    refine ok_lconst (v := (0 : Int64)) (dd TX12_rule_0 11 rfl) (by decide) ?_
    refine ok_ldc2 (v := (150 : Int64)) (dd TX12_rule_0 12 rfl) cl2_RX12_229 ?_
    refine ok_callSI [.long p1.toInt64, .long (0 : Int64), .long (150 : Int64)] [] (C_X12_in Γ p1.toInt64 (0 : Int64) (150 : Int64)) cy_X12_in ml_RX12_97 sm_X12_in (by decide) (Nat.le_of_ble_eq_true rfl) rfl (dd TX12_rule_0 13 rfl) (fun v2 => ?_)
    refine ok_if_ne (tgt := 36) (dd TX12_rule_0 14 rfl) (by decide) ?_ ?_
    · refine ok_aload_n (dd TX12_rule_0 20 rfl) 0 rfl ?_
      refine ok_iload_n (dd TX12_rule_0 21 rfl) 1 rfl ?_
      refine ok_iload_n (dd TX12_rule_0 22 rfl) 2 rfl ?_
      refine ok_iload_n (dd TX12_rule_0 23 rfl) 3 rfl ?_
      refine ok_iload (dd TX12_rule_0 24 rfl) 4 rfl ?_
      refine ok_iload (dd TX12_rule_0 25 rfl) 5 rfl ?_
      refine ok_iload (dd TX12_rule_0 26 rfl) 6 rfl ?_
      refine ok_iload (dd TX12_rule_0 27 rfl) 7 rfl ?_
      refine ok_callVI (cn := 12) [.int p0, .int p1, .int p2, .int p3, .int p4, .int p5, .int p6] [] (fun b3 => C_X12_ruleOf Γ b3 p0 p1 p2 p3 p4 p5 p6) rfl cy_X12_ruleOf ml_RX12_231 im_X12_ruleOf se_X12_ruleOf (by decide) (Nat.le_of_ble_eq_true rfl) rfl (dd TX12_rule_0 28 rfl) (fun v4 => ?_)
      exact ok_ireturn (dd TX12_rule_0 29 rfl) rfl
    · refine ok_sub [0] rfl ?_
      exact O_X12_rule_L29 Γ this
def F_X12_ranked_L111 (k6 : Nat → Int32 → Int32 → Int32 → Int32 → Int32 → M Int32) (k18 : Nat → Int32 → Int32 → Int32 → Int32 → Int32 → Int32 → Int32 → M Int32) (this : Nat) (x1 : Int32) (x2 : Int32) (x3 : Int32) (x4 : Int32) (x5 : Int32) (x6 : Int32) (x7 : Int32) : M Int32 := k18 this x1 x2 x3 x4 x5 x6 (x7 + (1 : Int32))
set_option maxRecDepth 100000 in
theorem O_X12_ranked_L111 (Γ : Gam) (k6 : Nat → Int32 → Int32 → Int32 → Int32 → Int32 → M Int32) (hk6 : ∀ (z0 : Nat) (z1 : Int32) (z2 : Int32) (z3 : Int32) (z4 : Int32) (z5 : Int32), Ok Γ mX12_ranked 1 (qo Γ vI) 6 [(0, va_rf (some z0)), (1, .int z1), (2, .int z2), (3, .int z3), (4, .int z4), (5, .int z5)] [] (k6 z0 z1 z2 z3 z4 z5)) (k18 : Nat → Int32 → Int32 → Int32 → Int32 → Int32 → Int32 → Int32 → M Int32) (hk18 : ∀ (z0 : Nat) (z1 : Int32) (z2 : Int32) (z3 : Int32) (z4 : Int32) (z5 : Int32) (z6 : Int32) (z7 : Int32), Ok Γ mX12_ranked 1 (qo Γ vI) 18 [(0, va_rf (some z0)), (1, .int z1), (2, .int z2), (3, .int z3), (4, .int z4), (5, .int z5), (6, .int z6), (7, .int z7)] [] (k18 z0 z1 z2 z3 z4 z5 z6 z7)) (this : Nat) (x1 : Int32) (x2 : Int32) (x3 : Int32) (x4 : Int32) (x5 : Int32) (x6 : Int32) (x7 : Int32) : Ok Γ mX12_ranked 1 (qo Γ vI) 111 [(0, va_rf (some this)), (1, .int x1), (2, .int x2), (3, .int x3), (4, .int x4), (5, .int x5), (6, .int x6), (7, .int x7)] [] (F_X12_ranked_L111 k6 k18 this x1 x2 x3 x4 x5 x6 x7) := by
  unfold F_X12_ranked_L111
  refine ok_iinc (lv' := [(7, .int (x7 + (1 : Int32))), (0, va_rf (some this)), (1, .int x1), (2, .int x2), (3, .int x3), (4, .int x4), (5, .int x5), (6, .int x6)]) (dd TX12_ranked_1 21 rfl) 7 rfl (congrArg (fun q : Int32 => x7 + q) (show Int32.ofInt (1) = (1 : Int32) from by decide)) (by decide) (by first | rfl | (simp only [List.filter, cat_rf]; rfl)) ?_
  refine ok_goto (tgt := 18) (dd TX12_ranked_1 22 rfl) (by decide) ?_
  refine ok_sub [1, 2, 3, 4, 5, 6, 7, 0] rfl ?_
  exact hk18 this x1 x2 x3 x4 x5 x6 (x7 + (1 : Int32))
def F_X12_ranked_L107 (k6 : Nat → Int32 → Int32 → Int32 → Int32 → Int32 → M Int32) (k18 : Nat → Int32 → Int32 → Int32 → Int32 → Int32 → Int32 → Int32 → M Int32) (this : Nat) (x1 : Int32) (x2 : Int32) (x3 : Int32) (x4 : Int32) (x5 : Int32) (x7 : Int32) : M Int32 := F_X12_ranked_L111 k6 k18 this x1 x2 x3 x4 x5 x7 x7
set_option maxRecDepth 100000 in
theorem O_X12_ranked_L107 (Γ : Gam) (k6 : Nat → Int32 → Int32 → Int32 → Int32 → Int32 → M Int32) (hk6 : ∀ (z0 : Nat) (z1 : Int32) (z2 : Int32) (z3 : Int32) (z4 : Int32) (z5 : Int32), Ok Γ mX12_ranked 1 (qo Γ vI) 6 [(0, va_rf (some z0)), (1, .int z1), (2, .int z2), (3, .int z3), (4, .int z4), (5, .int z5)] [] (k6 z0 z1 z2 z3 z4 z5)) (k18 : Nat → Int32 → Int32 → Int32 → Int32 → Int32 → Int32 → Int32 → M Int32) (hk18 : ∀ (z0 : Nat) (z1 : Int32) (z2 : Int32) (z3 : Int32) (z4 : Int32) (z5 : Int32) (z6 : Int32) (z7 : Int32), Ok Γ mX12_ranked 1 (qo Γ vI) 18 [(0, va_rf (some z0)), (1, .int z1), (2, .int z2), (3, .int z3), (4, .int z4), (5, .int z5), (6, .int z6), (7, .int z7)] [] (k18 z0 z1 z2 z3 z4 z5 z6 z7)) (this : Nat) (x1 : Int32) (x2 : Int32) (x3 : Int32) (x4 : Int32) (x5 : Int32) (x7 : Int32) : Ok Γ mX12_ranked 1 (qo Γ vI) 107 [(0, va_rf (some this)), (1, .int x1), (2, .int x2), (3, .int x3), (4, .int x4), (5, .int x5), (7, .int x7)] [] (F_X12_ranked_L107 k6 k18 this x1 x2 x3 x4 x5 x7) := by
  unfold F_X12_ranked_L107
  refine ok_iload (dd TX12_ranked_1 19 rfl) 6 rfl ?_
  refine ok_istore (lv' := [(6, .int x7), (0, va_rf (some this)), (1, .int x1), (2, .int x2), (3, .int x3), (4, .int x4), (5, .int x5), (7, .int x7)]) (dd TX12_ranked_1 20 rfl) (by decide) (by first | rfl | (simp only [List.filter, cat_rf]; rfl)) ?_
  refine ok_sub [1, 2, 3, 4, 5, 6, 0, 7] rfl ?_
  exact O_X12_ranked_L111 Γ k6 hk6 k18 hk18 this x1 x2 x3 x4 x5 x7 x7
def F_X12_ranked_L89 (k6 : Nat → Int32 → Int32 → Int32 → Int32 → Int32 → M Int32) (k18 : Nat → Int32 → Int32 → Int32 → Int32 → Int32 → Int32 → Int32 → M Int32) (this : Nat) (x1 : Int32) (x2 : Int32) (x3 : Int32) (x4 : Int32) (x5 : Int32) (x6 : Int32) (x7 : Int32) : M Int32 := if x6 = (-1 : Int32) then F_X12_ranked_L107 k6 k18 this x1 x2 x3 x4 x5 x7 else bn (pRc 12 (some this)) fun b8 => bn (F_X12_isBehind b8 x6 x7 x1) fun v9 => if v9 = 0 then F_X12_ranked_L111 k6 k18 this x1 x2 x3 x4 x5 x6 x7 else F_X12_ranked_L107 k6 k18 this x1 x2 x3 x4 x5 x7
set_option maxRecDepth 100000 in
theorem O_X12_ranked_L89 (Γ : Gam) (k6 : Nat → Int32 → Int32 → Int32 → Int32 → Int32 → M Int32) (hk6 : ∀ (z0 : Nat) (z1 : Int32) (z2 : Int32) (z3 : Int32) (z4 : Int32) (z5 : Int32), Ok Γ mX12_ranked 1 (qo Γ vI) 6 [(0, va_rf (some z0)), (1, .int z1), (2, .int z2), (3, .int z3), (4, .int z4), (5, .int z5)] [] (k6 z0 z1 z2 z3 z4 z5)) (k18 : Nat → Int32 → Int32 → Int32 → Int32 → Int32 → Int32 → Int32 → M Int32) (hk18 : ∀ (z0 : Nat) (z1 : Int32) (z2 : Int32) (z3 : Int32) (z4 : Int32) (z5 : Int32) (z6 : Int32) (z7 : Int32), Ok Γ mX12_ranked 1 (qo Γ vI) 18 [(0, va_rf (some z0)), (1, .int z1), (2, .int z2), (3, .int z3), (4, .int z4), (5, .int z5), (6, .int z6), (7, .int z7)] [] (k18 z0 z1 z2 z3 z4 z5 z6 z7)) (this : Nat) (x1 : Int32) (x2 : Int32) (x3 : Int32) (x4 : Int32) (x5 : Int32) (x6 : Int32) (x7 : Int32) : Ok Γ mX12_ranked 1 (qo Γ vI) 89 [(0, va_rf (some this)), (1, .int x1), (2, .int x2), (3, .int x3), (4, .int x4), (5, .int x5), (6, .int x6), (7, .int x7)] [] (F_X12_ranked_L89 k6 k18 this x1 x2 x3 x4 x5 x6 x7) := by
  unfold F_X12_ranked_L89
  refine ok_iload (dd TX12_ranked_1 10 rfl) 6 rfl ?_
  refine ok_iconst (v := (-1 : Int32)) (dd TX12_ranked_1 11 rfl) (by decide) ?_
  refine ok_icmp_eq (tgt := 107) (dd TX12_ranked_1 12 rfl) (by decide) ?_ ?_
  · refine ok_sub [0, 1, 2, 3, 4, 5, 7] rfl ?_
    exact O_X12_ranked_L107 Γ k6 hk6 k18 hk18 this x1 x2 x3 x4 x5 x7
  · refine ok_aload_n (dd TX12_ranked_1 13 rfl) 0 rfl ?_
    refine ok_iload (dd TX12_ranked_1 14 rfl) 6 rfl ?_
    refine ok_iload (dd TX12_ranked_1 15 rfl) 7 rfl ?_
    refine ok_iload_n (dd TX12_ranked_1 16 rfl) 1 rfl ?_
    refine ok_callVI (cn := 12) [.int x6, .int x7, .int x1] [] (fun b8 => C_X12_isBehind Γ b8 x6 x7 x1) rfl cy_X12_isBehind ml_RX12_248 im_X12_isBehind se_X12_isBehind (by decide) (Nat.le_of_ble_eq_true rfl) rfl (dd TX12_ranked_1 17 rfl) (fun v9 => ?_)
    refine ok_if_eq (tgt := 111) (dd TX12_ranked_1 18 rfl) (by decide) ?_ ?_
    · exact O_X12_ranked_L111 Γ k6 hk6 k18 hk18 this x1 x2 x3 x4 x5 x6 x7
    · refine ok_sub [0, 1, 2, 3, 4, 5, 7] rfl ?_
      exact O_X12_ranked_L107 Γ k6 hk6 k18 hk18 this x1 x2 x3 x4 x5 x7
def F_X12_ranked_L47 (k6 : Nat → Int32 → Int32 → Int32 → Int32 → Int32 → M Int32) (k18 : Nat → Int32 → Int32 → Int32 → Int32 → Int32 → Int32 → Int32 → M Int32) (this : Nat) (x1 : Int32) (x2 : Int32) (x3 : Int32) (x4 : Int32) (x5 : Int32) (x6 : Int32) (x7 : Int32) (y0 : Int32) (y1 : Int32) : M Int32 := if ¬ y1 = y0 then F_X12_ranked_L111 k6 k18 this x1 x2 x3 x4 x5 x6 x7 else bn (gP 12 20 (some this)) fun v4 => bn (lI 280 v4 (((5 : Int32) * x7) + (2 : Int32))) fun v5 => if v5 = x2 then if x4 = (-1 : Int32) then F_X12_ranked_L89 k6 k18 this x1 x2 x3 x4 x5 x6 x7 else bn (pRc 12 (some this)) fun b6 => bn (F_X12_isBehind b6 x7 x4 x1) fun v7 => if ¬ v7 = 0 then F_X12_ranked_L89 k6 k18 this x1 x2 x3 x4 x5 x6 x7 else F_X12_ranked_L111 k6 k18 this x1 x2 x3 x4 x5 x6 x7 else F_X12_ranked_L111 k6 k18 this x1 x2 x3 x4 x5 x6 x7
set_option maxRecDepth 100000 in
theorem O_X12_ranked_L47 (Γ : Gam) (k6 : Nat → Int32 → Int32 → Int32 → Int32 → Int32 → M Int32) (hk6 : ∀ (z0 : Nat) (z1 : Int32) (z2 : Int32) (z3 : Int32) (z4 : Int32) (z5 : Int32), Ok Γ mX12_ranked 1 (qo Γ vI) 6 [(0, va_rf (some z0)), (1, .int z1), (2, .int z2), (3, .int z3), (4, .int z4), (5, .int z5)] [] (k6 z0 z1 z2 z3 z4 z5)) (k18 : Nat → Int32 → Int32 → Int32 → Int32 → Int32 → Int32 → Int32 → M Int32) (hk18 : ∀ (z0 : Nat) (z1 : Int32) (z2 : Int32) (z3 : Int32) (z4 : Int32) (z5 : Int32) (z6 : Int32) (z7 : Int32), Ok Γ mX12_ranked 1 (qo Γ vI) 18 [(0, va_rf (some z0)), (1, .int z1), (2, .int z2), (3, .int z3), (4, .int z4), (5, .int z5), (6, .int z6), (7, .int z7)] [] (k18 z0 z1 z2 z3 z4 z5 z6 z7)) (this : Nat) (x1 : Int32) (x2 : Int32) (x3 : Int32) (x4 : Int32) (x5 : Int32) (x6 : Int32) (x7 : Int32) (y0 : Int32) (y1 : Int32) : Ok Γ mX12_ranked 1 (qo Γ vI) 47 [(0, va_rf (some this)), (1, .int x1), (2, .int x2), (3, .int x3), (4, .int x4), (5, .int x5), (6, .int x6), (7, .int x7)] [.int y0, .int y1] (F_X12_ranked_L47 k6 k18 this x1 x2 x3 x4 x5 x6 x7 y0 y1) := by
  unfold F_X12_ranked_L47
  refine ok_icmp_ne (tgt := 111) (dd TX12_ranked_0 28 rfl) (by decide) ?_ ?_
  · exact O_X12_ranked_L111 Γ k6 hk6 k18 hk18 this x1 x2 x3 x4 x5 x6 x7
  · refine ok_aload_n (dd TX12_ranked_0 29 rfl) 0 rfl ?_
    refine ok_gP fl_RX12_57 rfl (dd TX12_ranked_0 30 rfl) (fun v4 => ?_)
    refine ok_iconst (v := (5 : Int32)) (dd TX12_ranked_0 31 rfl) (by decide) ?_
    refine ok_iload (dd TX12_ranked_0 32 rfl) 7 rfl ?_
    refine ok_imul (dd TX12_ranked_0 33 rfl) ?_
    refine ok_iconst (v := (2 : Int32)) (dd TX12_ranked_0 34 rfl) (by decide) ?_
    refine ok_iadd (dd TX12_ranked_0 35 rfl) ?_
    refine ok_lI (kd := 280) (by decide) rfl (dd TX12_ranked_0 36 rfl) (fun v5 => ?_)
    refine ok_iload_n (dd TX12_ranked_0 37 rfl) 2 rfl ?_
    refine ok_icmp_eq (tgt := 68) (dd TX12_ranked_0 38 rfl) (by decide) ?_ ?_
    · refine ok_iload (dd TX12_ranked_1 0 rfl) 4 rfl ?_
      refine ok_iconst (v := (-1 : Int32)) (dd TX12_ranked_1 1 rfl) (by decide) ?_
      refine ok_icmp_eq (tgt := 89) (dd TX12_ranked_1 2 rfl) (by decide) ?_ ?_
      · exact O_X12_ranked_L89 Γ k6 hk6 k18 hk18 this x1 x2 x3 x4 x5 x6 x7
      · refine ok_aload_n (dd TX12_ranked_1 3 rfl) 0 rfl ?_
        refine ok_iload (dd TX12_ranked_1 4 rfl) 7 rfl ?_
        refine ok_iload (dd TX12_ranked_1 5 rfl) 4 rfl ?_
        refine ok_iload_n (dd TX12_ranked_1 6 rfl) 1 rfl ?_
        refine ok_callVI (cn := 12) [.int x7, .int x4, .int x1] [] (fun b6 => C_X12_isBehind Γ b6 x7 x4 x1) rfl cy_X12_isBehind ml_RX12_248 im_X12_isBehind se_X12_isBehind (by decide) (Nat.le_of_ble_eq_true rfl) rfl (dd TX12_ranked_1 7 rfl) (fun v7 => ?_)
        refine ok_if_ne (tgt := 89) (dd TX12_ranked_1 8 rfl) (by decide) ?_ ?_
        · exact O_X12_ranked_L89 Γ k6 hk6 k18 hk18 this x1 x2 x3 x4 x5 x6 x7
        · refine ok_goto (tgt := 111) (dd TX12_ranked_1 9 rfl) (by decide) ?_
          exact O_X12_ranked_L111 Γ k6 hk6 k18 hk18 this x1 x2 x3 x4 x5 x6 x7
    · refine ok_goto (tgt := 111) (dd TX12_ranked_0 39 rfl) (by decide) ?_
      exact O_X12_ranked_L111 Γ k6 hk6 k18 hk18 this x1 x2 x3 x4 x5 x6 x7
def F_X12_ranked_L18 (k6 : Nat → Int32 → Int32 → Int32 → Int32 → Int32 → M Int32) : Nat → Nat → Int32 → Int32 → Int32 → Int32 → Int32 → Int32 → Int32 → M Int32
  | 0 => fun _ _ _ _ _ _ _ _ => fl
  | n + 1 => fun this x1 x2 x3 x4 x5 x6 x7 => bn (gI 12 21 (some this)) fun v1 => if v1 ≤ x7 then if ¬ x6 = (-1 : Int32) then k6 this x1 x2 x3 x6 (x5 + (1 : Int32)) else rt (-1 : Int32) else bn (gP 12 20 (some this)) fun v2 => bn (lI 280 v2 (((5 : Int32) * x7) + (1 : Int32))) fun v3 => if x1 = 0 then F_X12_ranked_L47 k6 (F_X12_ranked_L18 k6 n) this x1 x2 x3 x4 x5 x6 x7 (0 : Int32) v3 else F_X12_ranked_L47 k6 (F_X12_ranked_L18 k6 n) this x1 x2 x3 x4 x5 x6 x7 (1 : Int32) v3
set_option maxRecDepth 100000 in
theorem O_X12_ranked_L18 (Γ : Gam) (k6 : Nat → Int32 → Int32 → Int32 → Int32 → Int32 → M Int32) (hk6 : ∀ (z0 : Nat) (z1 : Int32) (z2 : Int32) (z3 : Int32) (z4 : Int32) (z5 : Int32), Ok Γ mX12_ranked 1 (qo Γ vI) 6 [(0, va_rf (some z0)), (1, .int z1), (2, .int z2), (3, .int z3), (4, .int z4), (5, .int z5)] [] (k6 z0 z1 z2 z3 z4 z5)) (n : Nat) : ∀ (this : Nat) (x1 : Int32) (x2 : Int32) (x3 : Int32) (x4 : Int32) (x5 : Int32) (x6 : Int32) (x7 : Int32), Ok Γ mX12_ranked 1 (qo Γ vI) 18 [(0, va_rf (some this)), (1, .int x1), (2, .int x2), (3, .int x3), (4, .int x4), (5, .int x5), (6, .int x6), (7, .int x7)] [] (F_X12_ranked_L18 k6 n this x1 x2 x3 x4 x5 x6 x7) := by
  induction n with
  | zero => intro this x1 x2 x3 x4 x5 x6 x7; exact ok_fl
  | succ n ih =>
    intro this x1 x2 x3 x4 x5 x6 x7
    rw [F_X12_ranked_L18]
    refine ok_iload (dd TX12_ranked_0 11 rfl) 7 rfl ?_
    refine ok_aload_n (dd TX12_ranked_0 12 rfl) 0 rfl ?_
    refine ok_gI fl_RX12_245 rfl (dd TX12_ranked_0 13 rfl) (fun v1 => ?_)
    refine ok_icmp_ge (tgt := 117) (dd TX12_ranked_0 14 rfl) (by decide) ?_ ?_
    · refine ok_iload (dd TX12_ranked_1 23 rfl) 6 rfl ?_
      refine ok_iconst (v := (-1 : Int32)) (dd TX12_ranked_1 24 rfl) (by decide) ?_
      refine ok_icmp_ne (tgt := 125) (dd TX12_ranked_1 25 rfl) (by decide) ?_ ?_
      · refine ok_iload (dd TX12_ranked_1 28 rfl) 6 rfl ?_
        refine ok_istore (lv' := [(4, .int x6), (0, va_rf (some this)), (1, .int x1), (2, .int x2), (3, .int x3), (5, .int x5), (6, .int x6), (7, .int x7)]) (dd TX12_ranked_1 29 rfl) (by decide) (by first | rfl | (simp only [List.filter, cat_rf]; rfl)) ?_
        refine ok_iinc (lv' := [(5, .int (x5 + (1 : Int32))), (4, .int x6), (0, va_rf (some this)), (1, .int x1), (2, .int x2), (3, .int x3), (6, .int x6), (7, .int x7)]) (dd TX12_ranked_1 30 rfl) 5 rfl (congrArg (fun q : Int32 => x5 + q) (show Int32.ofInt (1) = (1 : Int32) from by decide)) (by decide) (by first | rfl | (simp only [List.filter, cat_rf]; rfl)) ?_
        refine ok_goto (tgt := 6) (dd TX12_ranked_1 31 rfl) (by decide) ?_
        refine ok_sub [2, 3, 4, 5, 1, 0] rfl ?_
        exact hk6 this x1 x2 x3 x6 (x5 + (1 : Int32))
      · refine ok_iconst (v := (-1 : Int32)) (dd TX12_ranked_1 26 rfl) (by decide) ?_
        exact ok_ireturn (dd TX12_ranked_1 27 rfl) rfl
    · refine ok_aload_n (dd TX12_ranked_0 15 rfl) 0 rfl ?_
      refine ok_gP fl_RX12_57 rfl (dd TX12_ranked_0 16 rfl) (fun v2 => ?_)
      refine ok_iconst (v := (5 : Int32)) (dd TX12_ranked_0 17 rfl) (by decide) ?_
      refine ok_iload (dd TX12_ranked_0 18 rfl) 7 rfl ?_
      refine ok_imul (dd TX12_ranked_0 19 rfl) ?_
      refine ok_iconst (v := (1 : Int32)) (dd TX12_ranked_0 20 rfl) (by decide) ?_
      refine ok_iadd (dd TX12_ranked_0 21 rfl) ?_
      refine ok_lI (kd := 280) (by decide) rfl (dd TX12_ranked_0 22 rfl) (fun v3 => ?_)
      refine ok_iload_n (dd TX12_ranked_0 23 rfl) 1 rfl ?_
      refine ok_if_eq (tgt := 46) (dd TX12_ranked_0 24 rfl) (by decide) ?_ ?_
      · refine ok_iconst (v := (0 : Int32)) (dd TX12_ranked_0 27 rfl) (by decide) ?_
        exact O_X12_ranked_L47 Γ k6 hk6 (F_X12_ranked_L18 k6 n) ih this x1 x2 x3 x4 x5 x6 x7 (0 : Int32) v3
      · refine ok_iconst (v := (1 : Int32)) (dd TX12_ranked_0 25 rfl) (by decide) ?_
        refine ok_goto (tgt := 47) (dd TX12_ranked_0 26 rfl) (by decide) ?_
        exact O_X12_ranked_L47 Γ k6 hk6 (F_X12_ranked_L18 k6 n) ih this x1 x2 x3 x4 x5 x6 x7 (1 : Int32) v3
def F_X12_ranked_L6 : Nat → Nat → Int32 → Int32 → Int32 → Int32 → Int32 → M Int32
  | 0 => fun _ _ _ _ _ _ => fl
  | n + 1 => fun this x1 x2 x3 x4 x5 => if x3 < x5 then rt x4 else F_X12_ranked_L18 (F_X12_ranked_L6 n) FU this x1 x2 x3 x4 x5 (-1 : Int32) (0 : Int32)
set_option maxRecDepth 100000 in
theorem O_X12_ranked_L6 (Γ : Gam) (n : Nat) : ∀ (this : Nat) (x1 : Int32) (x2 : Int32) (x3 : Int32) (x4 : Int32) (x5 : Int32), Ok Γ mX12_ranked 1 (qo Γ vI) 6 [(0, va_rf (some this)), (1, .int x1), (2, .int x2), (3, .int x3), (4, .int x4), (5, .int x5)] [] (F_X12_ranked_L6 n this x1 x2 x3 x4 x5) := by
  induction n with
  | zero => intro this x1 x2 x3 x4 x5; exact ok_fl
  | succ n ih =>
    intro this x1 x2 x3 x4 x5
    rw [F_X12_ranked_L6]
    refine ok_iload (dd TX12_ranked_0 4 rfl) 5 rfl ?_
    refine ok_iload_n (dd TX12_ranked_0 5 rfl) 3 rfl ?_
    refine ok_icmp_gt (tgt := 135) (dd TX12_ranked_0 6 rfl) (by decide) ?_ ?_
    · refine ok_iload (dd TX12_ranked_1 32 rfl) 4 rfl ?_
      exact ok_ireturn (dd TX12_ranked_1 33 rfl) rfl
    · refine ok_iconst (v := (-1 : Int32)) (dd TX12_ranked_0 7 rfl) (by decide) ?_
      refine ok_istore (lv' := [(6, .int (-1 : Int32)), (0, va_rf (some this)), (1, .int x1), (2, .int x2), (3, .int x3), (4, .int x4), (5, .int x5)]) (dd TX12_ranked_0 8 rfl) (by decide) (by first | rfl | (simp only [List.filter, cat_rf]; rfl)) ?_
      refine ok_iconst (v := (0 : Int32)) (dd TX12_ranked_0 9 rfl) (by decide) ?_
      refine ok_istore (lv' := [(7, .int (0 : Int32)), (6, .int (-1 : Int32)), (0, va_rf (some this)), (1, .int x1), (2, .int x2), (3, .int x3), (4, .int x4), (5, .int x5)]) (dd TX12_ranked_0 10 rfl) (by decide) (by first | rfl | (simp only [List.filter, cat_rf]; rfl)) ?_
      refine ok_sub [2, 3, 4, 5, 6, 7, 1, 0] rfl ?_
      exact O_X12_ranked_L18 Γ (F_X12_ranked_L6 n) ih FU this x1 x2 x3 x4 x5 (-1 : Int32) (0 : Int32)
def F_X12_ranked (this : Nat) (p0 : Int32) (p1 : Int32) (p2 : Int32) : M Int32 := F_X12_ranked_L6 FU this p0 p1 p2 (-1 : Int32) (0 : Int32)
set_option maxRecDepth 100000 in
theorem C_X12_ranked (Γ : Gam) (this : Nat) (p0 : Int32) (p1 : Int32) (p2 : Int32) : Ct Γ mX12_ranked 1 vI [va_rf (some this), .int p0, .int p1, .int p2] (F_X12_ranked this p0 p1 p2) := by
  refine ct_in (lv := [(0, va_rf (some this)), (1, .int p0), (2, .int p1), (3, .int p2)]) (by decide) (by first | rfl | (simp only [lv_args, cat_rf]; rfl)) (by first | exact Nat.le_of_ble_eq_true rfl | (rw [lg_len]; simp only [List.map_cons, List.map_nil, cat_rf]; exact Nat.le_of_ble_eq_true rfl)) ?_
  unfold F_X12_ranked
  refine ok_iconst (v := (-1 : Int32)) (dd TX12_ranked_0 0 rfl) (by decide) ?_
  refine ok_istore (lv' := [(4, .int (-1 : Int32)), (0, va_rf (some this)), (1, .int p0), (2, .int p1), (3, .int p2)]) (dd TX12_ranked_0 1 rfl) (by decide) (by first | rfl | (simp only [List.filter, cat_rf]; rfl)) ?_
  refine ok_iconst (v := (0 : Int32)) (dd TX12_ranked_0 2 rfl) (by decide) ?_
  refine ok_istore (lv' := [(5, .int (0 : Int32)), (4, .int (-1 : Int32)), (0, va_rf (some this)), (1, .int p0), (2, .int p1), (3, .int p2)]) (dd TX12_ranked_0 3 rfl) (by decide) (by first | rfl | (simp only [List.filter, cat_rf]; rfl)) ?_
  refine ok_sub [2, 3, 4, 5, 1, 0] rfl ?_
  exact O_X12_ranked_L6 Γ FU this p0 p1 p2 (-1 : Int32) (0 : Int32)
def F_X12_reason_L262  : M Int32 := rt (5 : Int32)
set_option maxRecDepth 100000 in
theorem O_X12_reason_L262 (Γ : Gam)  : Ok Γ mX12_reason 102 (qo Γ vI) 262 [] [] (F_X12_reason_L262 ) := by
  unfold F_X12_reason_L262
  refine ok_iconst (v := (5 : Int32)) (dd TX12_reason_3 28 rfl) (by decide) ?_
  refine ok_goto (tgt := 267) (dd TX12_reason_3 29 rfl) (by decide) ?_
  exact ok_ireturn (dd TX12_reason_3 31 rfl) rfl
def F_X12_reason_L213 (k138 : Nat → Int32 → Int32 → Int32 → Int32 → Int64 → Int32 → M Int32) (this : Nat) (x1 : Int32) (x2 : Int32) (x3 : Int32) (x5 : Int32) (x8 : Int64) (x10 : Int32) : M Int32 := k138 this x1 x2 x3 x5 x8 (x10 + (1 : Int32))
set_option maxRecDepth 100000 in
theorem O_X12_reason_L213 (Γ : Gam) (k138 : Nat → Int32 → Int32 → Int32 → Int32 → Int64 → Int32 → M Int32) (hk138 : ∀ (z0 : Nat) (z1 : Int32) (z2 : Int32) (z3 : Int32) (z5 : Int32) (z8 : Int64) (z10 : Int32), Ok Γ mX12_reason 102 (qo Γ vI) 138 [(0, va_rf (some z0)), (1, .int z1), (2, .int z2), (3, .int z3), (5, .int z5), (8, .long z8), (10, .int z10)] [] (k138 z0 z1 z2 z3 z5 z8 z10)) (this : Nat) (x1 : Int32) (x2 : Int32) (x3 : Int32) (x5 : Int32) (x8 : Int64) (x10 : Int32) : Ok Γ mX12_reason 102 (qo Γ vI) 213 [(0, va_rf (some this)), (1, .int x1), (2, .int x2), (3, .int x3), (5, .int x5), (8, .long x8), (10, .int x10)] [] (F_X12_reason_L213 k138 this x1 x2 x3 x5 x8 x10) := by
  unfold F_X12_reason_L213
  refine ok_iinc (lv' := [(10, .int (x10 + (1 : Int32))), (0, va_rf (some this)), (1, .int x1), (2, .int x2), (3, .int x3), (5, .int x5), (8, .long x8)]) (dd TX12_reason_3 2 rfl) 6 rfl (congrArg (fun q : Int32 => x10 + q) (show Int32.ofInt (1) = (1 : Int32) from by decide)) (by decide) (by first | rfl | (simp only [List.filter, cat_rf]; rfl)) ?_
  refine ok_goto (tgt := 138) (dd TX12_reason_3 3 rfl) (by decide) ?_
  refine ok_sub [1, 2, 3, 4, 5, 6, 0] rfl ?_
  exact hk138 this x1 x2 x3 x5 x8 (x10 + (1 : Int32))
def F_X12_reason_L182 (k138 : Nat → Int32 → Int32 → Int32 → Int32 → Int64 → Int32 → M Int32) (this : Nat) (x1 : Int32) (x2 : Int32) (x3 : Int32) (x5 : Int32) (x8 : Int64) (x10 : Int32) (x11 : Int32) (y0 : Int32) (y1 : Int32) : M Int32 := if ¬ y1 = y0 then F_X12_reason_L213 k138 this x1 x2 x3 x5 x8 x10 else bn (gP 12 20 (some this)) fun v27 => bn (lI 280 v27 (x11 + (2 : Int32))) fun v28 => if ¬ v28 = x3 then F_X12_reason_L213 k138 this x1 x2 x3 x5 x8 x10 else bn (gP 12 20 (some this)) fun v29 => bn (lI 280 v29 (x11 + (4 : Int32))) fun v30 => F_X12_reason_L213 k138 this x1 x2 x3 x5 (x8 + v30.toInt64) x10
set_option maxRecDepth 100000 in
theorem O_X12_reason_L182 (Γ : Gam) (k138 : Nat → Int32 → Int32 → Int32 → Int32 → Int64 → Int32 → M Int32) (hk138 : ∀ (z0 : Nat) (z1 : Int32) (z2 : Int32) (z3 : Int32) (z5 : Int32) (z8 : Int64) (z10 : Int32), Ok Γ mX12_reason 102 (qo Γ vI) 138 [(0, va_rf (some z0)), (1, .int z1), (2, .int z2), (3, .int z3), (5, .int z5), (8, .long z8), (10, .int z10)] [] (k138 z0 z1 z2 z3 z5 z8 z10)) (this : Nat) (x1 : Int32) (x2 : Int32) (x3 : Int32) (x5 : Int32) (x8 : Int64) (x10 : Int32) (x11 : Int32) (y0 : Int32) (y1 : Int32) : Ok Γ mX12_reason 102 (qo Γ vI) 182 [(0, va_rf (some this)), (1, .int x1), (2, .int x2), (3, .int x3), (5, .int x5), (8, .long x8), (10, .int x10), (11, .int x11)] [.int y0, .int y1] (F_X12_reason_L182 k138 this x1 x2 x3 x5 x8 x10 x11 y0 y1) := by
  unfold F_X12_reason_L182
  refine ok_icmp_ne (tgt := 213) (dd TX12_reason_2 23 rfl) (by decide) ?_ ?_
  · refine ok_sub [0, 1, 2, 3, 4, 5, 6] rfl ?_
    exact O_X12_reason_L213 Γ k138 hk138 this x1 x2 x3 x5 x8 x10
  · refine ok_aload_n (dd TX12_reason_2 24 rfl) 0 rfl ?_
    refine ok_gP fl_RX12_57 rfl (dd TX12_reason_2 25 rfl) (fun v27 => ?_)
    refine ok_iload (dd TX12_reason_2 26 rfl) 7 rfl ?_
    refine ok_iconst (v := (2 : Int32)) (dd TX12_reason_2 27 rfl) (by decide) ?_
    refine ok_iadd (dd TX12_reason_2 28 rfl) ?_
    refine ok_lI (kd := 280) (by decide) rfl (dd TX12_reason_2 29 rfl) (fun v28 => ?_)
    refine ok_iload_n (dd TX12_reason_2 30 rfl) 3 rfl ?_
    refine ok_icmp_ne (tgt := 213) (dd TX12_reason_2 31 rfl) (by decide) ?_ ?_
    · refine ok_sub [0, 1, 2, 3, 4, 5, 6] rfl ?_
      exact O_X12_reason_L213 Γ k138 hk138 this x1 x2 x3 x5 x8 x10
    · refine ok_lload (dd TX12_reason_2 32 rfl) 5 rfl ?_
      refine ok_aload_n (dd TX12_reason_2 33 rfl) 0 rfl ?_
      refine ok_gP fl_RX12_57 rfl (dd TX12_reason_2 34 rfl) (fun v29 => ?_)
      refine ok_iload (dd TX12_reason_2 35 rfl) 7 rfl ?_
      refine ok_iconst (v := (4 : Int32)) (dd TX12_reason_2 36 rfl) (by decide) ?_
      refine ok_iadd (dd TX12_reason_2 37 rfl) ?_
      refine ok_lI (kd := 280) (by decide) rfl (dd TX12_reason_2 38 rfl) (fun v30 => ?_)
      refine ok_i2l (dd TX12_reason_2 39 rfl) ?_
      refine ok_ladd (dd TX12_reason_3 0 rfl) ?_
      refine ok_lstore (lv' := [(8, .long (x8 + v30.toInt64)), (0, va_rf (some this)), (1, .int x1), (2, .int x2), (3, .int x3), (5, .int x5), (10, .int x10), (11, .int x11)]) (dd TX12_reason_3 1 rfl) (by decide) (by first | rfl | (simp only [List.filter, cat_rf]; rfl)) ?_
      refine ok_sub [1, 2, 3, 4, 5, 0, 6] rfl ?_
      exact O_X12_reason_L213 Γ k138 hk138 this x1 x2 x3 x5 (x8 + v30.toInt64) x10
def F_X12_reason_L138 : Nat → Nat → Int32 → Int32 → Int32 → Int32 → Int64 → Int32 → M Int32
  | 0 => fun _ _ _ _ _ _ _ => fl
  | n + 1 => fun this x1 x2 x3 x5 x8 x10 => bn (gI 12 21 (some this)) fun v17 => if v17 ≤ x10 then bn (gI 12 24 (some this)) fun v18 => bn (pRc 12 (some this)) fun b19 => bn (F_X12_ruleOf b19 (3 : Int32) v18 x3 (0 : Int32) x5 (0 : Int32) (0 : Int32)) fun v20 => if (lg_cmp x8 v20.toInt64) ≤ 0 then bn (gI 12 21 (some this)) fun v21 => if v21 = (120 : Int32) then F_X12_reason_L262  else bn (gI 12 23 (some this)) fun v22 => if ¬ v22 = (700 : Int32) then rt (0 : Int32) else F_X12_reason_L262  else rt (4 : Int32) else bn (gP 12 20 (some this)) fun v23 => bn (lI 280 v23 ((5 : Int32) * x10)) fun v24 => if ¬ v24 = x1 then F_X12_reason_L213 (F_X12_reason_L138 n) this x1 x2 x3 x5 x8 x10 else bn (gP 12 20 (some this)) fun v25 => bn (lI 280 v25 (((5 : Int32) * x10) + (1 : Int32))) fun v26 => if x2 = 0 then F_X12_reason_L182 (F_X12_reason_L138 n) this x1 x2 x3 x5 x8 x10 ((5 : Int32) * x10) (0 : Int32) v26 else F_X12_reason_L182 (F_X12_reason_L138 n) this x1 x2 x3 x5 x8 x10 ((5 : Int32) * x10) (1 : Int32) v26
set_option maxRecDepth 100000 in
theorem O_X12_reason_L138 (Γ : Gam) (n : Nat) : ∀ (this : Nat) (x1 : Int32) (x2 : Int32) (x3 : Int32) (x5 : Int32) (x8 : Int64) (x10 : Int32), Ok Γ mX12_reason 102 (qo Γ vI) 138 [(0, va_rf (some this)), (1, .int x1), (2, .int x2), (3, .int x3), (5, .int x5), (8, .long x8), (10, .int x10)] [] (F_X12_reason_L138 n this x1 x2 x3 x5 x8 x10) := by
  induction n with
  | zero => intro this x1 x2 x3 x5 x8 x10; exact ok_fl
  | succ n ih =>
    intro this x1 x2 x3 x5 x8 x10
    rw [F_X12_reason_L138]
    refine ok_iload (dd TX12_reason_1 38 rfl) 6 rfl ?_
    refine ok_aload_n (dd TX12_reason_1 39 rfl) 0 rfl ?_
    refine ok_gI fl_RX12_245 rfl (dd TX12_reason_2 0 rfl) (fun v17 => ?_)
    refine ok_icmp_ge (tgt := 219) (dd TX12_reason_2 1 rfl) (by decide) ?_ ?_
    · refine ok_lload (dd TX12_reason_3 4 rfl) 5 rfl ?_
      refine ok_aload_n (dd TX12_reason_3 5 rfl) 0 rfl ?_
      refine ok_iconst (v := (3 : Int32)) (dd TX12_reason_3 6 rfl) (by decide) ?_
      refine ok_aload_n (dd TX12_reason_3 7 rfl) 0 rfl ?_
      refine ok_gI fl_RX12_238 rfl (dd TX12_reason_3 8 rfl) (fun v18 => ?_)
      refine ok_iload_n (dd TX12_reason_3 9 rfl) 3 rfl ?_
      refine ok_iconst (v := (0 : Int32)) (dd TX12_reason_3 10 rfl) (by decide) ?_
      refine ok_iload (dd TX12_reason_3 11 rfl) 4 rfl ?_
      refine ok_iconst (v := (0 : Int32)) (dd TX12_reason_3 12 rfl) (by decide) ?_
      refine ok_iconst (v := (0 : Int32)) (dd TX12_reason_3 13 rfl) (by decide) ?_
      refine ok_callVI (cn := 12) [.int (3 : Int32), .int v18, .int x3, .int (0 : Int32), .int x5, .int (0 : Int32), .int (0 : Int32)] [.long x8] (fun b19 => C_X12_ruleOf Γ b19 (3 : Int32) v18 x3 (0 : Int32) x5 (0 : Int32) (0 : Int32)) rfl cy_X12_ruleOf ml_RX12_231 im_X12_ruleOf se_X12_ruleOf (by decide) (Nat.le_of_ble_eq_true rfl) rfl (dd TX12_reason_3 14 rfl) (fun v20 => ?_)
      refine ok_i2l (dd TX12_reason_3 15 rfl) ?_
      refine ok_lcmp (dd TX12_reason_3 16 rfl) ?_
      refine ok_if_le (tgt := 243) (dd TX12_reason_3 17 rfl) (by decide) ?_ ?_
      · refine ok_aload_n (dd TX12_reason_3 20 rfl) 0 rfl ?_
        refine ok_gI fl_RX12_245 rfl (dd TX12_reason_3 21 rfl) (fun v21 => ?_)
        refine ok_bipush (v := (120 : Int32)) (dd TX12_reason_3 22 rfl) (by decide) ?_
        refine ok_icmp_eq (tgt := 262) (dd TX12_reason_3 23 rfl) (by decide) ?_ ?_
        · refine ok_sub [] rfl ?_
          exact O_X12_reason_L262 Γ 
        · refine ok_aload_n (dd TX12_reason_3 24 rfl) 0 rfl ?_
          refine ok_gI fl_RX12_270 rfl (dd TX12_reason_3 25 rfl) (fun v22 => ?_)
          refine ok_sipush (v := (700 : Int32)) (dd TX12_reason_3 26 rfl) (by decide) ?_
          refine ok_icmp_ne (tgt := 266) (dd TX12_reason_3 27 rfl) (by decide) ?_ ?_
          · refine ok_iconst (v := (0 : Int32)) (dd TX12_reason_3 30 rfl) (by decide) ?_
            exact ok_ireturn (dd TX12_reason_3 31 rfl) rfl
          · refine ok_sub [] rfl ?_
            exact O_X12_reason_L262 Γ 
      · refine ok_iconst (v := (4 : Int32)) (dd TX12_reason_3 18 rfl) (by decide) ?_
        exact ok_ireturn (dd TX12_reason_3 19 rfl) rfl
    · refine ok_iconst (v := (5 : Int32)) (dd TX12_reason_2 2 rfl) (by decide) ?_
      refine ok_iload (dd TX12_reason_2 3 rfl) 6 rfl ?_
      refine ok_imul (dd TX12_reason_2 4 rfl) ?_
      refine ok_istore (lv' := [(11, .int ((5 : Int32) * x10)), (0, va_rf (some this)), (1, .int x1), (2, .int x2), (3, .int x3), (5, .int x5), (8, .long x8), (10, .int x10)]) (dd TX12_reason_2 5 rfl) (by decide) (by first | rfl | (simp only [List.filter, cat_rf]; rfl)) ?_
      refine ok_aload_n (dd TX12_reason_2 6 rfl) 1 rfl ?_
      refine ok_gP fl_RX12_57 rfl (dd TX12_reason_2 7 rfl) (fun v23 => ?_)
      refine ok_iload (dd TX12_reason_2 8 rfl) 0 rfl ?_
      refine ok_lI (kd := 280) (by decide) rfl (dd TX12_reason_2 9 rfl) (fun v24 => ?_)
      refine ok_iload_n (dd TX12_reason_2 10 rfl) 2 rfl ?_
      refine ok_icmp_ne (tgt := 213) (dd TX12_reason_2 11 rfl) (by decide) ?_ ?_
      · refine ok_sub [1, 2, 3, 4, 5, 6, 7] rfl ?_
        exact O_X12_reason_L213 Γ (F_X12_reason_L138 n) ih this x1 x2 x3 x5 x8 x10
      · refine ok_aload_n (dd TX12_reason_2 12 rfl) 1 rfl ?_
        refine ok_gP fl_RX12_57 rfl (dd TX12_reason_2 13 rfl) (fun v25 => ?_)
        refine ok_iload (dd TX12_reason_2 14 rfl) 0 rfl ?_
        refine ok_iconst (v := (1 : Int32)) (dd TX12_reason_2 15 rfl) (by decide) ?_
        refine ok_iadd (dd TX12_reason_2 16 rfl) ?_
        refine ok_lI (kd := 280) (by decide) rfl (dd TX12_reason_2 17 rfl) (fun v26 => ?_)
        refine ok_iload_n (dd TX12_reason_2 18 rfl) 3 rfl ?_
        refine ok_if_eq (tgt := 181) (dd TX12_reason_2 19 rfl) (by decide) ?_ ?_
        · refine ok_iconst (v := (0 : Int32)) (dd TX12_reason_2 22 rfl) (by decide) ?_
          refine ok_sub [1, 2, 3, 4, 5, 6, 7, 0] rfl ?_
          exact O_X12_reason_L182 Γ (F_X12_reason_L138 n) ih this x1 x2 x3 x5 x8 x10 ((5 : Int32) * x10) (0 : Int32) v26
        · refine ok_iconst (v := (1 : Int32)) (dd TX12_reason_2 20 rfl) (by decide) ?_
          refine ok_goto (tgt := 182) (dd TX12_reason_2 21 rfl) (by decide) ?_
          refine ok_sub [1, 2, 3, 4, 5, 6, 7, 0] rfl ?_
          exact O_X12_reason_L182 Γ (F_X12_reason_L138 n) ih this x1 x2 x3 x5 x8 x10 ((5 : Int32) * x10) (1 : Int32) v26
def F_X12_reason_L129 (this : Nat) (x1 : Int32) (x2 : Int32) (x3 : Int32) (x5 : Int32) (y0 : Int32) : M Int32 := F_X12_reason_L138 FU this x1 x2 x3 x5 ((y0 + x5).toInt64) (0 : Int32)
set_option maxRecDepth 100000 in
theorem O_X12_reason_L129 (Γ : Gam) (this : Nat) (x1 : Int32) (x2 : Int32) (x3 : Int32) (x5 : Int32) (y0 : Int32) : Ok Γ mX12_reason 102 (qo Γ vI) 129 [(0, va_rf (some this)), (1, .int x1), (2, .int x2), (3, .int x3), (5, .int x5)] [.int y0] (F_X12_reason_L129 this x1 x2 x3 x5 y0) := by
  unfold F_X12_reason_L129
  refine ok_iload (dd TX12_reason_1 32 rfl) 4 rfl ?_
  refine ok_iadd (dd TX12_reason_1 33 rfl) ?_
  refine ok_i2l (dd TX12_reason_1 34 rfl) ?_
  refine ok_lstore (lv' := [(8, .long ((y0 + x5).toInt64)), (0, va_rf (some this)), (1, .int x1), (2, .int x2), (3, .int x3), (5, .int x5)]) (dd TX12_reason_1 35 rfl) (by decide) (by first | rfl | (simp only [List.filter, cat_rf]; rfl)) ?_
  refine ok_iconst (v := (0 : Int32)) (dd TX12_reason_1 36 rfl) (by decide) ?_
  refine ok_istore (lv' := [(10, .int (0 : Int32)), (8, .long ((y0 + x5).toInt64)), (0, va_rf (some this)), (1, .int x1), (2, .int x2), (3, .int x3), (5, .int x5)]) (dd TX12_reason_1 37 rfl) (by decide) (by first | rfl | (simp only [List.filter, cat_rf]; rfl)) ?_
  refine ok_sub [2, 3, 4, 5, 6, 1, 0] rfl ?_
  exact O_X12_reason_L138 Γ FU this x1 x2 x3 x5 ((y0 + x5).toInt64) (0 : Int32)
def F_X12_reason_L104 (this : Nat) (x1 : Int32) (x2 : Int32) (x3 : Int32) (x5 : Int32) : M Int32 := bn (gP 12 14 (some this)) fun v15 => bn (lI 232 v15 (((6 : Int32) * x1) + x3)) fun v16 => if x2 = 0 then F_X12_reason_L129 this x1 x2 x3 x5 (-v16) else F_X12_reason_L129 this x1 x2 x3 x5 v16
set_option maxRecDepth 100000 in
theorem O_X12_reason_L104 (Γ : Gam) (this : Nat) (x1 : Int32) (x2 : Int32) (x3 : Int32) (x5 : Int32) : Ok Γ mX12_reason 102 (qo Γ vI) 104 [(0, va_rf (some this)), (1, .int x1), (2, .int x2), (3, .int x3), (5, .int x5)] [] (F_X12_reason_L104 this x1 x2 x3 x5) := by
  unfold F_X12_reason_L104
  refine ok_aload_n (dd TX12_reason_1 17 rfl) 0 rfl ?_
  refine ok_gP fl_RX12_39 rfl (dd TX12_reason_1 18 rfl) (fun v15 => ?_)
  refine ok_bipush (v := (6 : Int32)) (dd TX12_reason_1 19 rfl) (by decide) ?_
  refine ok_iload_n (dd TX12_reason_1 20 rfl) 1 rfl ?_
  refine ok_imul (dd TX12_reason_1 21 rfl) ?_
  refine ok_iload_n (dd TX12_reason_1 22 rfl) 3 rfl ?_
  refine ok_iadd (dd TX12_reason_1 23 rfl) ?_
  refine ok_lI (kd := 232) (by decide) rfl (dd TX12_reason_1 24 rfl) (fun v16 => ?_)
  refine ok_istore (lv' := [(7, .int v16), (0, va_rf (some this)), (1, .int x1), (2, .int x2), (3, .int x3), (5, .int x5)]) (dd TX12_reason_1 25 rfl) (by decide) (by first | rfl | (simp only [List.filter, cat_rf]; rfl)) ?_
  refine ok_iload_n (dd TX12_reason_1 26 rfl) 3 rfl ?_
  refine ok_if_eq (tgt := 126) (dd TX12_reason_1 27 rfl) (by decide) ?_ ?_
  · refine ok_iload (dd TX12_reason_1 30 rfl) 0 rfl ?_
    refine ok_ineg (dd TX12_reason_1 31 rfl) ?_
    refine ok_sub [1, 2, 3, 4, 5] rfl ?_
    exact O_X12_reason_L129 Γ this x1 x2 x3 x5 (-v16)
  · refine ok_iload (dd TX12_reason_1 28 rfl) 0 rfl ?_
    refine ok_goto (tgt := 129) (dd TX12_reason_1 29 rfl) (by decide) ?_
    refine ok_sub [1, 2, 3, 4, 5] rfl ?_
    exact O_X12_reason_L129 Γ this x1 x2 x3 x5 v16
def F_X12_reason (this : Nat) (p0 : Int32) (p1 : Int32) (p2 : Int32) (p3 : Int32) (p4 : Int32) : M Int32 := bn (pRc 12 (some this)) fun b1 => bn (F_X12_isMember b1 p0) fun v2 => if v2 = 0 then rt (1 : Int32) else bn (F_X12_isMonth p2) fun v3 => if v3 = 0 then rt (1 : Int32) else bn (F_X12_in p4.toInt64 (1 : Int64) (50 : Int64)) fun v4 => if v4 = 0 then rt (1 : Int32) else bn (F_X12_in p3.toInt64 (1 : Int64) (10000 : Int64)) fun v5 => if ¬ v5 = 0 then bn (gP 12 13 (some this)) fun v6 => bn (lI 226 v6 p0) fun v7 => if ¬ v7 = 0 then rt (2 : Int32) else bn (gP 12 19 (some this)) fun v8 => bn (lI 274 v8 p2) fun v9 => if v9 = 0 then bn (pRc 12 (some this)) fun b10 => bn (F_X12_latest b10 p2) fun v11 => if v11 = (-1 : Int32) then F_X12_reason_L104 this p0 p1 p2 p4 else bn (gI 12 24 (some this)) fun v12 => bn (pRc 12 (some this)) fun b13 => bn (F_X12_ruleOf b13 (0 : Int32) v12 p2 v11 (0 : Int32) (0 : Int32) (0 : Int32)) fun v14 => if (if 0 ≤ (p3 - v11) then (p3 - v11) else 0 - (p3 - v11)) ≤ v14 then F_X12_reason_L104 this p0 p1 p2 p4 else rt (3 : Int32) else rt (2 : Int32) else rt (1 : Int32)
set_option maxRecDepth 100000 in
theorem C_X12_reason (Γ : Gam) (this : Nat) (p0 : Int32) (p1 : Int32) (p2 : Int32) (p3 : Int32) (p4 : Int32) : Ct Γ mX12_reason 102 vI [va_rf (some this), .int p0, .int p1, .int p2, .int p3, .int p4] (F_X12_reason this p0 p1 p2 p3 p4) := by
  refine ct_in (lv := [(0, va_rf (some this)), (1, .int p0), (2, .int p1), (3, .int p2), (4, .int p3), (5, .int p4)]) (by decide) (by first | rfl | (simp only [lv_args, cat_rf]; rfl)) (by first | exact Nat.le_of_ble_eq_true rfl | (rw [lg_len]; simp only [List.map_cons, List.map_nil, cat_rf]; exact Nat.le_of_ble_eq_true rfl)) ?_
  unfold F_X12_reason
  refine ok_aload_n (dd TX12_reason_0 0 rfl) 0 rfl ?_
  refine ok_iload_n (dd TX12_reason_0 1 rfl) 1 rfl ?_
  refine ok_callVI (cn := 12) [.int p0] [] (fun b1 => C_X12_isMember Γ b1 p0) rfl cy_X12_isMember ml_RX12_252 im_X12_isMember se_X12_isMember (by decide) (Nat.le_of_ble_eq_true rfl) rfl (dd TX12_reason_0 2 rfl) (fun v2 => ?_)
  refine ok_if_eq (tgt := 41) (dd TX12_reason_0 3 rfl) (by decide) ?_ ?_
  · refine ok_iconst (v := (1 : Int32)) (dd TX12_reason_0 19 rfl) (by decide) ?_
    exact ok_ireturn (dd TX12_reason_0 20 rfl) rfl
  · refine ok_iload_n (dd TX12_reason_0 4 rfl) 3 rfl ?_
    refine ok_callSI [.int p2] [] (C_X12_isMonth Γ p2) cy_X12_isMonth ml_RX12_255 sm_X12_isMonth (by decide) (Nat.le_of_ble_eq_true rfl) rfl (dd TX12_reason_0 5 rfl) (fun v3 => ?_)
    refine ok_if_eq (tgt := 41) (dd TX12_reason_0 6 rfl) (by decide) ?_ ?_
    · refine ok_iconst (v := (1 : Int32)) (dd TX12_reason_0 19 rfl) (by decide) ?_
      exact ok_ireturn (dd TX12_reason_0 20 rfl) rfl
    · refine ok_iload (dd TX12_reason_0 7 rfl) 5 rfl ?_
      refine ok_i2l (dd TX12_reason_0 8 rfl) ?_
      refine ok_lconst (v := (1 : Int64)) (dd TX12_reason_0 9 rfl) (by decide) ?_
      refine ok_ldc2 (v := (50 : Int64)) (dd TX12_reason_0 10 rfl) cl2_RX12_258 ?_
      refine ok_callSI [.long p4.toInt64, .long (1 : Int64), .long (50 : Int64)] [] (C_X12_in Γ p4.toInt64 (1 : Int64) (50 : Int64)) cy_X12_in ml_RX12_97 sm_X12_in (by decide) (Nat.le_of_ble_eq_true rfl) rfl (dd TX12_reason_0 11 rfl) (fun v4 => ?_)
      refine ok_if_eq (tgt := 41) (dd TX12_reason_0 12 rfl) (by decide) ?_ ?_
      · refine ok_iconst (v := (1 : Int32)) (dd TX12_reason_0 19 rfl) (by decide) ?_
        exact ok_ireturn (dd TX12_reason_0 20 rfl) rfl
      · refine ok_iload (dd TX12_reason_0 13 rfl) 4 rfl ?_
        refine ok_i2l (dd TX12_reason_0 14 rfl) ?_
        refine ok_lconst (v := (1 : Int64)) (dd TX12_reason_0 15 rfl) (by decide) ?_
        refine ok_ldc2 (v := (10000 : Int64)) (dd TX12_reason_0 16 rfl) cl2_RX12_260 ?_
        refine ok_callSI [.long p3.toInt64, .long (1 : Int64), .long (10000 : Int64)] [] (C_X12_in Γ p3.toInt64 (1 : Int64) (10000 : Int64)) cy_X12_in ml_RX12_97 sm_X12_in (by decide) (Nat.le_of_ble_eq_true rfl) rfl (dd TX12_reason_0 17 rfl) (fun v5 => ?_)
        refine ok_if_ne (tgt := 43) (dd TX12_reason_0 18 rfl) (by decide) ?_ ?_
        · refine ok_aload_n (dd TX12_reason_0 21 rfl) 0 rfl ?_
          refine ok_gP fl_RX12_36 rfl (dd TX12_reason_0 22 rfl) (fun v6 => ?_)
          refine ok_iload_n (dd TX12_reason_0 23 rfl) 1 rfl ?_
          refine ok_lZ (kd := 226) (by decide) rfl (dd TX12_reason_0 24 rfl) (fun v7 => ?_)
          refine ok_if_ne (tgt := 61) (dd TX12_reason_0 25 rfl) (by decide) ?_ ?_
          · refine ok_iconst (v := (2 : Int32)) (dd TX12_reason_0 31 rfl) (by decide) ?_
            exact ok_ireturn (dd TX12_reason_0 32 rfl) rfl
          · refine ok_aload_n (dd TX12_reason_0 26 rfl) 0 rfl ?_
            refine ok_gP fl_RX12_54 rfl (dd TX12_reason_0 27 rfl) (fun v8 => ?_)
            refine ok_iload_n (dd TX12_reason_0 28 rfl) 3 rfl ?_
            refine ok_lZ (kd := 274) (by decide) rfl (dd TX12_reason_0 29 rfl) (fun v9 => ?_)
            refine ok_if_eq (tgt := 63) (dd TX12_reason_0 30 rfl) (by decide) ?_ ?_
            · refine ok_aload_n (dd TX12_reason_0 33 rfl) 0 rfl ?_
              refine ok_iload_n (dd TX12_reason_0 34 rfl) 3 rfl ?_
              refine ok_callVI (cn := 12) [.int p2] [] (fun b10 => C_X12_latest Γ b10 p2) rfl cy_X12_latest ml_RX12_262 im_X12_latest se_X12_latest (by decide) (Nat.le_of_ble_eq_true rfl) rfl (dd TX12_reason_0 35 rfl) (fun v11 => ?_)
              refine ok_istore (lv' := [(6, .int v11), (0, va_rf (some this)), (1, .int p0), (2, .int p1), (3, .int p2), (4, .int p3), (5, .int p4)]) (dd TX12_reason_0 36 rfl) (by decide) (by first | rfl | (simp only [List.filter, cat_rf]; rfl)) ?_
              refine ok_iload (dd TX12_reason_0 37 rfl) 0 rfl ?_
              refine ok_iconst (v := (-1 : Int32)) (dd TX12_reason_0 38 rfl) (by decide) ?_
              refine ok_icmp_eq (tgt := 104) (dd TX12_reason_0 39 rfl) (by decide) ?_ ?_
              · refine ok_sub [1, 2, 3, 4, 6] rfl ?_
                exact O_X12_reason_L104 Γ this p0 p1 p2 p4
              · refine ok_iload (dd TX12_reason_1 0 rfl) 5 rfl ?_
                refine ok_iload (dd TX12_reason_1 1 rfl) 0 rfl ?_
                refine ok_isub (dd TX12_reason_1 2 rfl) ?_
                refine ok_mabs ml_RX12_265 ms_abs w_mi mc_abs (by decide) (Nat.le_of_ble_eq_true rfl) (dd TX12_reason_1 3 rfl) ?_
                refine ok_aload_n (dd TX12_reason_1 4 rfl) 1 rfl ?_
                refine ok_iconst (v := (0 : Int32)) (dd TX12_reason_1 5 rfl) (by decide) ?_
                refine ok_aload_n (dd TX12_reason_1 6 rfl) 1 rfl ?_
                refine ok_gI fl_RX12_238 rfl (dd TX12_reason_1 7 rfl) (fun v12 => ?_)
                refine ok_iload_n (dd TX12_reason_1 8 rfl) 4 rfl ?_
                refine ok_iload (dd TX12_reason_1 9 rfl) 0 rfl ?_
                refine ok_iconst (v := (0 : Int32)) (dd TX12_reason_1 10 rfl) (by decide) ?_
                refine ok_iconst (v := (0 : Int32)) (dd TX12_reason_1 11 rfl) (by decide) ?_
                refine ok_iconst (v := (0 : Int32)) (dd TX12_reason_1 12 rfl) (by decide) ?_
                refine ok_callVI (cn := 12) [.int (0 : Int32), .int v12, .int p2, .int v11, .int (0 : Int32), .int (0 : Int32), .int (0 : Int32)] [.int (if 0 ≤ (p3 - v11) then (p3 - v11) else 0 - (p3 - v11))] (fun b13 => C_X12_ruleOf Γ b13 (0 : Int32) v12 p2 v11 (0 : Int32) (0 : Int32) (0 : Int32)) rfl cy_X12_ruleOf ml_RX12_231 im_X12_ruleOf se_X12_ruleOf (by decide) (Nat.le_of_ble_eq_true rfl) rfl (dd TX12_reason_1 13 rfl) (fun v14 => ?_)
                refine ok_icmp_le (tgt := 104) (dd TX12_reason_1 14 rfl) (by decide) ?_ ?_
                · refine ok_sub [1, 2, 3, 4, 6] rfl ?_
                  exact O_X12_reason_L104 Γ this p0 p1 p2 p4
                · refine ok_iconst (v := (3 : Int32)) (dd TX12_reason_1 15 rfl) (by decide) ?_
                  exact ok_ireturn (dd TX12_reason_1 16 rfl) rfl
            · refine ok_iconst (v := (2 : Int32)) (dd TX12_reason_0 31 rfl) (by decide) ?_
              exact ok_ireturn (dd TX12_reason_0 32 rfl) rfl
        · refine ok_iconst (v := (1 : Int32)) (dd TX12_reason_0 19 rfl) (by decide) ?_
          exact ok_ireturn (dd TX12_reason_0 20 rfl) rfl
def F_X12_order_L465 (x5 : Int32) (x7 : Int32) : M Int32 := rt (x5 - x7)
set_option maxRecDepth 100000 in
theorem O_X12_order_L465 (Γ : Gam) (x5 : Int32) (x7 : Int32) : Ok Γ mX12_order 103 (qo Γ vI) 465 [(5, .int x5), (7, .int x7)] [] (F_X12_order_L465 x5 x7) := by
  unfold F_X12_order_L465
  refine ok_iload (dd TX12_order_6 36 rfl) 0 rfl ?_
  refine ok_iload (dd TX12_order_6 37 rfl) 1 rfl ?_
  refine ok_isub (dd TX12_order_6 38 rfl) ?_
  exact ok_ireturn (dd TX12_order_6 39 rfl) rfl
def F_X12_order_L422 (this : Nat) (x3 : Int32) (x4 : Int32) (x5 : Int32) (x7 : Int32) (x9 : Int32) (y0 : Int32) (y1 : Int32) (y2 : Option Nat) : M Int32 := bn (stI 280 y2 y1 y0) fun _ => bn (gP 12 20 (some this)) fun v14 => bn (stI 280 v14 (x9 + (2 : Int32)) x3) fun _ => bn (gP 12 20 (some this)) fun v15 => bn (stI 280 v15 (x9 + (3 : Int32)) x4) fun _ => bn (gP 12 20 (some this)) fun v16 => bn (stI 280 v16 (x9 + (4 : Int32)) x7) fun _ => bn (gI 12 21 (some this)) fun v17 => bn (wI 12 21 (some this) (v17 + (1 : Int32))) fun _ => F_X12_order_L465 x5 x7
set_option maxRecDepth 100000 in
theorem O_X12_order_L422 (Γ : Gam) (this : Nat) (x3 : Int32) (x4 : Int32) (x5 : Int32) (x7 : Int32) (x9 : Int32) (y0 : Int32) (y1 : Int32) (y2 : Option Nat) : Ok Γ mX12_order 103 (qo Γ vI) 422 [(0, va_rf (some this)), (3, .int x3), (4, .int x4), (5, .int x5), (7, .int x7), (9, .int x9)] [.int y0, .int y1, va_rf y2] (F_X12_order_L422 this x3 x4 x5 x7 x9 y0 y1 y2) := by
  unfold F_X12_order_L422
  refine ok_stI (kd := 280) (by decide) rfl (dd TX12_order_6 8 rfl) ?_
  refine ok_aload_n (dd TX12_order_6 9 rfl) 0 rfl ?_
  refine ok_gP fl_RX12_57 rfl (dd TX12_order_6 10 rfl) (fun v14 => ?_)
  refine ok_iload (dd TX12_order_6 11 rfl) 5 rfl ?_
  refine ok_iconst (v := (2 : Int32)) (dd TX12_order_6 12 rfl) (by decide) ?_
  refine ok_iadd (dd TX12_order_6 13 rfl) ?_
  refine ok_iload_n (dd TX12_order_6 14 rfl) 1 rfl ?_
  refine ok_stI (kd := 280) (by decide) rfl (dd TX12_order_6 15 rfl) ?_
  refine ok_aload_n (dd TX12_order_6 16 rfl) 0 rfl ?_
  refine ok_gP fl_RX12_57 rfl (dd TX12_order_6 17 rfl) (fun v15 => ?_)
  refine ok_iload (dd TX12_order_6 18 rfl) 5 rfl ?_
  refine ok_iconst (v := (3 : Int32)) (dd TX12_order_6 19 rfl) (by decide) ?_
  refine ok_iadd (dd TX12_order_6 20 rfl) ?_
  refine ok_iload (dd TX12_order_6 21 rfl) 2 rfl ?_
  refine ok_stI (kd := 280) (by decide) rfl (dd TX12_order_6 22 rfl) ?_
  refine ok_aload_n (dd TX12_order_6 23 rfl) 0 rfl ?_
  refine ok_gP fl_RX12_57 rfl (dd TX12_order_6 24 rfl) (fun v16 => ?_)
  refine ok_iload (dd TX12_order_6 25 rfl) 5 rfl ?_
  refine ok_iconst (v := (4 : Int32)) (dd TX12_order_6 26 rfl) (by decide) ?_
  refine ok_iadd (dd TX12_order_6 27 rfl) ?_
  refine ok_iload (dd TX12_order_6 28 rfl) 4 rfl ?_
  refine ok_stI (kd := 280) (by decide) rfl (dd TX12_order_6 29 rfl) ?_
  refine ok_aload_n (dd TX12_order_6 30 rfl) 0 rfl ?_
  refine ok_dup (dd TX12_order_6 31 rfl) (by first | rfl | exact cat_rf _) ?_
  refine ok_gI fl_RX12_245 rfl (dd TX12_order_6 32 rfl) (fun v17 => ?_)
  refine ok_iconst (v := (1 : Int32)) (dd TX12_order_6 33 rfl) (by decide) ?_
  refine ok_iadd (dd TX12_order_6 34 rfl) ?_
  refine ok_wI fl_RX12_245 (Or.inl rfl) (tyX12_ok 21 (by decide)) (by decide) rfl (dd TX12_order_6 35 rfl) ?_
  refine ok_sub [3, 4] rfl ?_
  exact O_X12_order_L465 Γ x5 x7
def F_X12_order_L374 (this : Nat) (x1 : Int32) (x2 : Int32) (x3 : Int32) (x4 : Int32) (x5 : Int32) (x7 : Int32) : M Int32 := if x7 ≤ 0 then F_X12_order_L465 x5 x7 else bn (gI 12 23 (some this)) fun v4 => if (700 : Int32) ≤ v4 then F_X12_order_L465 x5 x7 else bn (gI 12 21 (some this)) fun v5 => bn (gP 12 20 (some this)) fun v6 => bn (stI 280 v6 ((5 : Int32) * v5) x1) fun _ => bn (gP 12 20 (some this)) fun v7 => if x2 = 0 then F_X12_order_L422 this x3 x4 x5 x7 ((5 : Int32) * v5) (0 : Int32) (((5 : Int32) * v5) + (1 : Int32)) v7 else F_X12_order_L422 this x3 x4 x5 x7 ((5 : Int32) * v5) (1 : Int32) (((5 : Int32) * v5) + (1 : Int32)) v7
set_option maxRecDepth 100000 in
theorem O_X12_order_L374 (Γ : Gam) (this : Nat) (x1 : Int32) (x2 : Int32) (x3 : Int32) (x4 : Int32) (x5 : Int32) (x7 : Int32) : Ok Γ mX12_order 103 (qo Γ vI) 374 [(0, va_rf (some this)), (1, .int x1), (2, .int x2), (3, .int x3), (4, .int x4), (5, .int x5), (7, .int x7)] [] (F_X12_order_L374 this x1 x2 x3 x4 x5 x7) := by
  unfold F_X12_order_L374
  refine ok_iload (dd TX12_order_5 22 rfl) 6 rfl ?_
  refine ok_if_le (tgt := 465) (dd TX12_order_5 23 rfl) (by decide) ?_ ?_
  · refine ok_sub [5, 6] rfl ?_
    exact O_X12_order_L465 Γ x5 x7
  · refine ok_aload_n (dd TX12_order_5 24 rfl) 0 rfl ?_
    refine ok_gI fl_RX12_270 rfl (dd TX12_order_5 25 rfl) (fun v4 => ?_)
    refine ok_sipush (v := (700 : Int32)) (dd TX12_order_5 26 rfl) (by decide) ?_
    refine ok_icmp_ge (tgt := 465) (dd TX12_order_5 27 rfl) (by decide) ?_ ?_
    · refine ok_sub [5, 6] rfl ?_
      exact O_X12_order_L465 Γ x5 x7
    · refine ok_iconst (v := (5 : Int32)) (dd TX12_order_5 28 rfl) (by decide) ?_
      refine ok_aload_n (dd TX12_order_5 29 rfl) 0 rfl ?_
      refine ok_gI fl_RX12_245 rfl (dd TX12_order_5 30 rfl) (fun v5 => ?_)
      refine ok_imul (dd TX12_order_5 31 rfl) ?_
      refine ok_istore (lv' := [(9, .int ((5 : Int32) * v5)), (0, va_rf (some this)), (1, .int x1), (2, .int x2), (3, .int x3), (4, .int x4), (5, .int x5), (7, .int x7)]) (dd TX12_order_5 32 rfl) (by decide) (by first | rfl | (simp only [List.filter, cat_rf]; rfl)) ?_
      refine ok_aload_n (dd TX12_order_5 33 rfl) 1 rfl ?_
      refine ok_gP fl_RX12_57 rfl (dd TX12_order_5 34 rfl) (fun v6 => ?_)
      refine ok_iload (dd TX12_order_5 35 rfl) 0 rfl ?_
      refine ok_iload_n (dd TX12_order_5 36 rfl) 2 rfl ?_
      refine ok_stI (kd := 280) (by decide) rfl (dd TX12_order_5 37 rfl) ?_
      refine ok_aload_n (dd TX12_order_5 38 rfl) 1 rfl ?_
      refine ok_gP fl_RX12_57 rfl (dd TX12_order_5 39 rfl) (fun v7 => ?_)
      refine ok_iload (dd TX12_order_6 0 rfl) 0 rfl ?_
      refine ok_iconst (v := (1 : Int32)) (dd TX12_order_6 1 rfl) (by decide) ?_
      refine ok_iadd (dd TX12_order_6 2 rfl) ?_
      refine ok_iload_n (dd TX12_order_6 3 rfl) 3 rfl ?_
      refine ok_if_eq (tgt := 421) (dd TX12_order_6 4 rfl) (by decide) ?_ ?_
      · refine ok_iconst (v := (0 : Int32)) (dd TX12_order_6 7 rfl) (by decide) ?_
        refine ok_sub [1, 4, 5, 6, 7, 0] rfl ?_
        exact O_X12_order_L422 Γ this x3 x4 x5 x7 ((5 : Int32) * v5) (0 : Int32) (((5 : Int32) * v5) + (1 : Int32)) v7
      · refine ok_iconst (v := (1 : Int32)) (dd TX12_order_6 5 rfl) (by decide) ?_
        refine ok_goto (tgt := 422) (dd TX12_order_6 6 rfl) (by decide) ?_
        refine ok_sub [1, 4, 5, 6, 7, 0] rfl ?_
        exact O_X12_order_L422 Γ this x3 x4 x5 x7 ((5 : Int32) * v5) (1 : Int32) (((5 : Int32) * v5) + (1 : Int32)) v7
def F_X12_order_L371 (k35 : Nat → Int32 → Int32 → Int32 → Int32 → Int32 → Int32 → Int32 → M Int32) (this : Nat) (x1 : Int32) (x2 : Int32) (x3 : Int32) (x4 : Int32) (x5 : Int32) (x7 : Int32) (x8 : Int32) : M Int32 := k35 this x1 x2 x3 x4 x5 x7 x8
set_option maxRecDepth 100000 in
theorem O_X12_order_L371 (Γ : Gam) (k35 : Nat → Int32 → Int32 → Int32 → Int32 → Int32 → Int32 → Int32 → M Int32) (hk35 : ∀ (z0 : Nat) (z1 : Int32) (z2 : Int32) (z3 : Int32) (z4 : Int32) (z5 : Int32) (z7 : Int32) (z8 : Int32), Ok Γ mX12_order 103 (qo Γ vI) 35 [(0, va_rf (some z0)), (1, .int z1), (2, .int z2), (3, .int z3), (4, .int z4), (5, .int z5), (7, .int z7), (8, .int z8)] [] (k35 z0 z1 z2 z3 z4 z5 z7 z8)) (this : Nat) (x1 : Int32) (x2 : Int32) (x3 : Int32) (x4 : Int32) (x5 : Int32) (x7 : Int32) (x8 : Int32) : Ok Γ mX12_order 103 (qo Γ vI) 371 [(0, va_rf (some this)), (1, .int x1), (2, .int x2), (3, .int x3), (4, .int x4), (5, .int x5), (7, .int x7), (8, .int x8)] [] (F_X12_order_L371 k35 this x1 x2 x3 x4 x5 x7 x8) := by
  unfold F_X12_order_L371
  refine ok_goto (tgt := 35) (dd TX12_order_5 21 rfl) (by decide) ?_
  exact hk35 this x1 x2 x3 x4 x5 x7 x8
def F_X12_order_L266 (k35 : Nat → Int32 → Int32 → Int32 → Int32 → Int32 → Int32 → Int32 → M Int32) (this : Nat) (x1 : Int32) (x2 : Int32) (x3 : Int32) (x4 : Int32) (x5 : Int32) (x7 : Int32) (x8 : Int32) (x9 : Int32) (x10 : Int32) (x12 : Int32) (x13 : Int32) (y0 : Int32) (y1 : Int32) (y2 : Option Nat) : M Int32 := bn (stI 288 y2 y1 y0) fun _ => bn (gP 12 22 (some this)) fun v32 => bn (gI 12 24 (some this)) fun v33 => bn (stI 288 v32 (x13 + (5 : Int32)) v33) fun _ => bn (gP 12 22 (some this)) fun v34 => bn (stI 288 v34 (x13 + (6 : Int32)) (0 : Int32)) fun _ => bn (gI 12 23 (some this)) fun v35 => bn (wI 12 23 (some this) (v35 + (1 : Int32))) fun _ => bn (gP 12 22 (some this)) fun v36 => bn (lI 288 v36 (x13 + (3 : Int32))) fun v37 => bn (gP 12 22 (some this)) fun v38 => bn (lI 288 v38 (x13 + (4 : Int32))) fun v39 => bn (pRc 12 (some this)) fun b40 => bn (F_X12_move b40 v37 v39 x3 x12 x10) fun _ => bn (gP 12 20 (some this)) fun v41 => bn (lI 280 v41 (((5 : Int32) * x9) + (4 : Int32))) fun v42 => bn (stI 280 v41 (((5 : Int32) * x9) + (4 : Int32)) (v42 - x10)) fun _ => bn (gP 12 20 (some this)) fun v43 => bn (lI 280 v43 (((5 : Int32) * x9) + (4 : Int32))) fun v44 => if ¬ v44 = 0 then F_X12_order_L371 k35 this x1 x2 x3 x4 x5 (x7 - x10) x8 else bn (pRc 12 (some this)) fun b45 => bn (F_X12_dropOrder b45 x9) fun _ => F_X12_order_L371 k35 this x1 x2 x3 x4 x5 (x7 - x10) x8
set_option maxRecDepth 100000 in
theorem O_X12_order_L266 (Γ : Gam) (k35 : Nat → Int32 → Int32 → Int32 → Int32 → Int32 → Int32 → Int32 → M Int32) (hk35 : ∀ (z0 : Nat) (z1 : Int32) (z2 : Int32) (z3 : Int32) (z4 : Int32) (z5 : Int32) (z7 : Int32) (z8 : Int32), Ok Γ mX12_order 103 (qo Γ vI) 35 [(0, va_rf (some z0)), (1, .int z1), (2, .int z2), (3, .int z3), (4, .int z4), (5, .int z5), (7, .int z7), (8, .int z8)] [] (k35 z0 z1 z2 z3 z4 z5 z7 z8)) (this : Nat) (x1 : Int32) (x2 : Int32) (x3 : Int32) (x4 : Int32) (x5 : Int32) (x7 : Int32) (x8 : Int32) (x9 : Int32) (x10 : Int32) (x12 : Int32) (x13 : Int32) (y0 : Int32) (y1 : Int32) (y2 : Option Nat) : Ok Γ mX12_order 103 (qo Γ vI) 266 [(0, va_rf (some this)), (1, .int x1), (2, .int x2), (3, .int x3), (4, .int x4), (5, .int x5), (7, .int x7), (8, .int x8), (9, .int x9), (10, .int x10), (12, .int x12), (13, .int x13)] [.int y0, .int y1, va_rf y2] (F_X12_order_L266 k35 this x1 x2 x3 x4 x5 x7 x8 x9 x10 x12 x13 y0 y1 y2) := by
  unfold F_X12_order_L266
  refine ok_stI (kd := 288) (by decide) rfl (dd TX12_order_3 34 rfl) ?_
  refine ok_aload_n (dd TX12_order_3 35 rfl) 0 rfl ?_
  refine ok_gP fl_RX12_60 rfl (dd TX12_order_3 36 rfl) (fun v32 => ?_)
  refine ok_iload (dd TX12_order_3 37 rfl) 11 rfl ?_
  refine ok_iconst (v := (5 : Int32)) (dd TX12_order_3 38 rfl) (by decide) ?_
  refine ok_iadd (dd TX12_order_3 39 rfl) ?_
  refine ok_aload_n (dd TX12_order_4 0 rfl) 0 rfl ?_
  refine ok_gI fl_RX12_238 rfl (dd TX12_order_4 1 rfl) (fun v33 => ?_)
  refine ok_stI (kd := 288) (by decide) rfl (dd TX12_order_4 2 rfl) ?_
  refine ok_aload_n (dd TX12_order_4 3 rfl) 0 rfl ?_
  refine ok_gP fl_RX12_60 rfl (dd TX12_order_4 4 rfl) (fun v34 => ?_)
  refine ok_iload (dd TX12_order_4 5 rfl) 11 rfl ?_
  refine ok_bipush (v := (6 : Int32)) (dd TX12_order_4 6 rfl) (by decide) ?_
  refine ok_iadd (dd TX12_order_4 7 rfl) ?_
  refine ok_iconst (v := (0 : Int32)) (dd TX12_order_4 8 rfl) (by decide) ?_
  refine ok_stI (kd := 288) (by decide) rfl (dd TX12_order_4 9 rfl) ?_
  refine ok_aload_n (dd TX12_order_4 10 rfl) 0 rfl ?_
  refine ok_dup (dd TX12_order_4 11 rfl) (by first | rfl | exact cat_rf _) ?_
  refine ok_gI fl_RX12_270 rfl (dd TX12_order_4 12 rfl) (fun v35 => ?_)
  refine ok_iconst (v := (1 : Int32)) (dd TX12_order_4 13 rfl) (by decide) ?_
  refine ok_iadd (dd TX12_order_4 14 rfl) ?_
  refine ok_wI fl_RX12_270 (Or.inl rfl) (tyX12_ok 23 (by decide)) (by decide) rfl (dd TX12_order_4 15 rfl) ?_
  refine ok_aload_n (dd TX12_order_4 16 rfl) 0 rfl ?_
  refine ok_aload_n (dd TX12_order_4 17 rfl) 0 rfl ?_
  refine ok_gP fl_RX12_60 rfl (dd TX12_order_4 18 rfl) (fun v36 => ?_)
  refine ok_iload (dd TX12_order_4 19 rfl) 11 rfl ?_
  refine ok_iconst (v := (3 : Int32)) (dd TX12_order_4 20 rfl) (by decide) ?_
  refine ok_iadd (dd TX12_order_4 21 rfl) ?_
  refine ok_lI (kd := 288) (by decide) rfl (dd TX12_order_4 22 rfl) (fun v37 => ?_)
  refine ok_aload_n (dd TX12_order_4 23 rfl) 0 rfl ?_
  refine ok_gP fl_RX12_60 rfl (dd TX12_order_4 24 rfl) (fun v38 => ?_)
  refine ok_iload (dd TX12_order_4 25 rfl) 11 rfl ?_
  refine ok_iconst (v := (4 : Int32)) (dd TX12_order_4 26 rfl) (by decide) ?_
  refine ok_iadd (dd TX12_order_4 27 rfl) ?_
  refine ok_lI (kd := 288) (by decide) rfl (dd TX12_order_4 28 rfl) (fun v39 => ?_)
  refine ok_iload_n (dd TX12_order_4 29 rfl) 3 rfl ?_
  refine ok_iload (dd TX12_order_4 30 rfl) 10 rfl ?_
  refine ok_iload (dd TX12_order_4 31 rfl) 9 rfl ?_
  refine ok_callVV (cn := 12) [.int v37, .int v39, .int x3, .int x12, .int x10] [] (fun b40 => C_X12_move Γ b40 v37 v39 x3 x12 x10) rfl cy_X12_move ml_RX12_281 im_X12_move se_X12_move (by decide) (Nat.le_of_ble_eq_true rfl) rfl (dd TX12_order_4 32 rfl) ?_
  refine ok_iload (dd TX12_order_4 33 rfl) 6 rfl ?_
  refine ok_iload (dd TX12_order_4 34 rfl) 9 rfl ?_
  refine ok_isub (dd TX12_order_4 35 rfl) ?_
  refine ok_istore (lv' := [(7, .int (x7 - x10)), (0, va_rf (some this)), (1, .int x1), (2, .int x2), (3, .int x3), (4, .int x4), (5, .int x5), (8, .int x8), (9, .int x9), (10, .int x10), (12, .int x12), (13, .int x13)]) (dd TX12_order_4 36 rfl) (by decide) (by first | rfl | (simp only [List.filter, cat_rf]; rfl)) ?_
  refine ok_aload_n (dd TX12_order_4 37 rfl) 1 rfl ?_
  refine ok_gP fl_RX12_57 rfl (dd TX12_order_4 38 rfl) (fun v41 => ?_)
  refine ok_iconst (v := (5 : Int32)) (dd TX12_order_4 39 rfl) (by decide) ?_
  refine ok_iload (dd TX12_order_5 0 rfl) 8 rfl ?_
  refine ok_imul (dd TX12_order_5 1 rfl) ?_
  refine ok_iconst (v := (4 : Int32)) (dd TX12_order_5 2 rfl) (by decide) ?_
  refine ok_iadd (dd TX12_order_5 3 rfl) ?_
  refine ok_dup2_11 (dd TX12_order_5 4 rfl) (by first | rfl | exact cat_rf _) (by first | rfl | exact cat_rf _) ?_
  refine ok_lI (kd := 280) (by decide) rfl (dd TX12_order_5 5 rfl) (fun v42 => ?_)
  refine ok_iload (dd TX12_order_5 6 rfl) 9 rfl ?_
  refine ok_isub (dd TX12_order_5 7 rfl) ?_
  refine ok_stI (kd := 280) (by decide) rfl (dd TX12_order_5 8 rfl) ?_
  refine ok_aload_n (dd TX12_order_5 9 rfl) 1 rfl ?_
  refine ok_gP fl_RX12_57 rfl (dd TX12_order_5 10 rfl) (fun v43 => ?_)
  refine ok_iconst (v := (5 : Int32)) (dd TX12_order_5 11 rfl) (by decide) ?_
  refine ok_iload (dd TX12_order_5 12 rfl) 8 rfl ?_
  refine ok_imul (dd TX12_order_5 13 rfl) ?_
  refine ok_iconst (v := (4 : Int32)) (dd TX12_order_5 14 rfl) (by decide) ?_
  refine ok_iadd (dd TX12_order_5 15 rfl) ?_
  refine ok_lI (kd := 280) (by decide) rfl (dd TX12_order_5 16 rfl) (fun v44 => ?_)
  refine ok_if_ne (tgt := 371) (dd TX12_order_5 17 rfl) (by decide) ?_ ?_
  · refine ok_sub [1, 2, 3, 4, 5, 6, 0, 7] rfl ?_
    exact O_X12_order_L371 Γ k35 hk35 this x1 x2 x3 x4 x5 (x7 - x10) x8
  · refine ok_aload_n (dd TX12_order_5 18 rfl) 1 rfl ?_
    refine ok_iload (dd TX12_order_5 19 rfl) 8 rfl ?_
    refine ok_callVV (cn := 12) [.int x9] [] (fun b45 => C_X12_dropOrder Γ b45 x9) rfl cy_X12_dropOrder ml_RX12_285 im_X12_dropOrder se_X12_dropOrder (by decide) (Nat.le_of_ble_eq_true rfl) rfl (dd TX12_order_5 20 rfl) ?_
    refine ok_sub [1, 2, 3, 4, 5, 6, 0, 7] rfl ?_
    exact O_X12_order_L371 Γ k35 hk35 this x1 x2 x3 x4 x5 (x7 - x10) x8
def F_X12_order_L247 (k35 : Nat → Int32 → Int32 → Int32 → Int32 → Int32 → Int32 → Int32 → M Int32) (this : Nat) (x1 : Int32) (x2 : Int32) (x3 : Int32) (x4 : Int32) (x5 : Int32) (x7 : Int32) (x8 : Int32) (x9 : Int32) (x10 : Int32) (x11 : Int32) (x12 : Int32) (x13 : Int32) (y0 : Int32) (y1 : Int32) (y2 : Option Nat) : M Int32 := bn (stI 288 y2 y1 y0) fun _ => bn (gP 12 22 (some this)) fun v31 => if x2 = 0 then F_X12_order_L266 k35 this x1 x2 x3 x4 x5 x7 x8 x9 x10 x12 x13 x1 (x13 + (4 : Int32)) v31 else F_X12_order_L266 k35 this x1 x2 x3 x4 x5 x7 x8 x9 x10 x12 x13 x11 (x13 + (4 : Int32)) v31
set_option maxRecDepth 100000 in
theorem O_X12_order_L247 (Γ : Gam) (k35 : Nat → Int32 → Int32 → Int32 → Int32 → Int32 → Int32 → Int32 → M Int32) (hk35 : ∀ (z0 : Nat) (z1 : Int32) (z2 : Int32) (z3 : Int32) (z4 : Int32) (z5 : Int32) (z7 : Int32) (z8 : Int32), Ok Γ mX12_order 103 (qo Γ vI) 35 [(0, va_rf (some z0)), (1, .int z1), (2, .int z2), (3, .int z3), (4, .int z4), (5, .int z5), (7, .int z7), (8, .int z8)] [] (k35 z0 z1 z2 z3 z4 z5 z7 z8)) (this : Nat) (x1 : Int32) (x2 : Int32) (x3 : Int32) (x4 : Int32) (x5 : Int32) (x7 : Int32) (x8 : Int32) (x9 : Int32) (x10 : Int32) (x11 : Int32) (x12 : Int32) (x13 : Int32) (y0 : Int32) (y1 : Int32) (y2 : Option Nat) : Ok Γ mX12_order 103 (qo Γ vI) 247 [(0, va_rf (some this)), (1, .int x1), (2, .int x2), (3, .int x3), (4, .int x4), (5, .int x5), (7, .int x7), (8, .int x8), (9, .int x9), (10, .int x10), (11, .int x11), (12, .int x12), (13, .int x13)] [.int y0, .int y1, va_rf y2] (F_X12_order_L247 k35 this x1 x2 x3 x4 x5 x7 x8 x9 x10 x11 x12 x13 y0 y1 y2) := by
  unfold F_X12_order_L247
  refine ok_stI (kd := 288) (by decide) rfl (dd TX12_order_3 23 rfl) ?_
  refine ok_aload_n (dd TX12_order_3 24 rfl) 0 rfl ?_
  refine ok_gP fl_RX12_60 rfl (dd TX12_order_3 25 rfl) (fun v31 => ?_)
  refine ok_iload (dd TX12_order_3 26 rfl) 12 rfl ?_
  refine ok_iconst (v := (4 : Int32)) (dd TX12_order_3 27 rfl) (by decide) ?_
  refine ok_iadd (dd TX12_order_3 28 rfl) ?_
  refine ok_iload_n (dd TX12_order_3 29 rfl) 2 rfl ?_
  refine ok_if_eq (tgt := 265) (dd TX12_order_3 30 rfl) (by decide) ?_ ?_
  · refine ok_iload_n (dd TX12_order_3 33 rfl) 1 rfl ?_
    refine ok_sub [0, 1, 2, 3, 4, 5, 6, 7, 8, 9, 11, 12] rfl ?_
    exact O_X12_order_L266 Γ k35 hk35 this x1 x2 x3 x4 x5 x7 x8 x9 x10 x12 x13 x1 (x13 + (4 : Int32)) v31
  · refine ok_iload (dd TX12_order_3 31 rfl) 10 rfl ?_
    refine ok_goto (tgt := 266) (dd TX12_order_3 32 rfl) (by decide) ?_
    refine ok_sub [0, 1, 2, 3, 4, 5, 6, 7, 8, 9, 11, 12] rfl ?_
    exact O_X12_order_L266 Γ k35 hk35 this x1 x2 x3 x4 x5 x7 x8 x9 x10 x12 x13 x11 (x13 + (4 : Int32)) v31
def F_X12_order_L164 (k35 : Nat → Int32 → Int32 → Int32 → Int32 → Int32 → Int32 → Int32 → M Int32) (this : Nat) (x1 : Int32) (x2 : Int32) (x3 : Int32) (x4 : Int32) (x5 : Int32) (x7 : Int32) (x8 : Int32) (x9 : Int32) (y0 : Int32) : M Int32 := bn (gP 12 20 (some this)) fun v22 => bn (lI 280 v22 ((5 : Int32) * x9)) fun v23 => bn (gP 12 20 (some this)) fun v24 => bn (lI 280 v24 (((5 : Int32) * x9) + (3 : Int32))) fun v25 => bn (gI 12 23 (some this)) fun v26 => bn (gP 12 22 (some this)) fun v27 => bn (stI 288 v27 ((7 : Int32) * v26) x3) fun _ => bn (gP 12 22 (some this)) fun v28 => bn (stI 288 v28 (((7 : Int32) * v26) + (1 : Int32)) v25) fun _ => bn (gP 12 22 (some this)) fun v29 => bn (stI 288 v29 (((7 : Int32) * v26) + (2 : Int32)) y0) fun _ => bn (gP 12 22 (some this)) fun v30 => if x2 = 0 then F_X12_order_L247 k35 this x1 x2 x3 x4 x5 x7 x8 x9 y0 v23 v25 ((7 : Int32) * v26) v23 (((7 : Int32) * v26) + (3 : Int32)) v30 else F_X12_order_L247 k35 this x1 x2 x3 x4 x5 x7 x8 x9 y0 v23 v25 ((7 : Int32) * v26) x1 (((7 : Int32) * v26) + (3 : Int32)) v30
set_option maxRecDepth 100000 in
theorem O_X12_order_L164 (Γ : Gam) (k35 : Nat → Int32 → Int32 → Int32 → Int32 → Int32 → Int32 → Int32 → M Int32) (hk35 : ∀ (z0 : Nat) (z1 : Int32) (z2 : Int32) (z3 : Int32) (z4 : Int32) (z5 : Int32) (z7 : Int32) (z8 : Int32), Ok Γ mX12_order 103 (qo Γ vI) 35 [(0, va_rf (some z0)), (1, .int z1), (2, .int z2), (3, .int z3), (4, .int z4), (5, .int z5), (7, .int z7), (8, .int z8)] [] (k35 z0 z1 z2 z3 z4 z5 z7 z8)) (this : Nat) (x1 : Int32) (x2 : Int32) (x3 : Int32) (x4 : Int32) (x5 : Int32) (x7 : Int32) (x8 : Int32) (x9 : Int32) (y0 : Int32) : Ok Γ mX12_order 103 (qo Γ vI) 164 [(0, va_rf (some this)), (1, .int x1), (2, .int x2), (3, .int x3), (4, .int x4), (5, .int x5), (7, .int x7), (8, .int x8), (9, .int x9)] [.int y0] (F_X12_order_L164 k35 this x1 x2 x3 x4 x5 x7 x8 x9 y0) := by
  unfold F_X12_order_L164
  refine ok_istore (lv' := [(10, .int y0), (0, va_rf (some this)), (1, .int x1), (2, .int x2), (3, .int x3), (4, .int x4), (5, .int x5), (7, .int x7), (8, .int x8), (9, .int x9)]) (dd TX12_order_2 12 rfl) (by decide) (by first | rfl | (simp only [List.filter, cat_rf]; rfl)) ?_
  refine ok_aload_n (dd TX12_order_2 13 rfl) 1 rfl ?_
  refine ok_gP fl_RX12_57 rfl (dd TX12_order_2 14 rfl) (fun v22 => ?_)
  refine ok_iconst (v := (5 : Int32)) (dd TX12_order_2 15 rfl) (by decide) ?_
  refine ok_iload (dd TX12_order_2 16 rfl) 9 rfl ?_
  refine ok_imul (dd TX12_order_2 17 rfl) ?_
  refine ok_lI (kd := 280) (by decide) rfl (dd TX12_order_2 18 rfl) (fun v23 => ?_)
  refine ok_istore (lv' := [(11, .int v23), (10, .int y0), (0, va_rf (some this)), (1, .int x1), (2, .int x2), (3, .int x3), (4, .int x4), (5, .int x5), (7, .int x7), (8, .int x8), (9, .int x9)]) (dd TX12_order_2 19 rfl) (by decide) (by first | rfl | (simp only [List.filter, cat_rf]; rfl)) ?_
  refine ok_aload_n (dd TX12_order_2 20 rfl) 2 rfl ?_
  refine ok_gP fl_RX12_57 rfl (dd TX12_order_2 21 rfl) (fun v24 => ?_)
  refine ok_iconst (v := (5 : Int32)) (dd TX12_order_2 22 rfl) (by decide) ?_
  refine ok_iload (dd TX12_order_2 23 rfl) 10 rfl ?_
  refine ok_imul (dd TX12_order_2 24 rfl) ?_
  refine ok_iconst (v := (3 : Int32)) (dd TX12_order_2 25 rfl) (by decide) ?_
  refine ok_iadd (dd TX12_order_2 26 rfl) ?_
  refine ok_lI (kd := 280) (by decide) rfl (dd TX12_order_2 27 rfl) (fun v25 => ?_)
  refine ok_istore (lv' := [(12, .int v25), (11, .int v23), (10, .int y0), (0, va_rf (some this)), (1, .int x1), (2, .int x2), (3, .int x3), (4, .int x4), (5, .int x5), (7, .int x7), (8, .int x8), (9, .int x9)]) (dd TX12_order_2 28 rfl) (by decide) (by first | rfl | (simp only [List.filter, cat_rf]; rfl)) ?_
  refine ok_bipush (v := (7 : Int32)) (dd TX12_order_2 29 rfl) (by decide) ?_
  refine ok_aload_n (dd TX12_order_2 30 rfl) 3 rfl ?_
  refine ok_gI fl_RX12_270 rfl (dd TX12_order_2 31 rfl) (fun v26 => ?_)
  refine ok_imul (dd TX12_order_2 32 rfl) ?_
  refine ok_istore (lv' := [(13, .int ((7 : Int32) * v26)), (12, .int v25), (11, .int v23), (10, .int y0), (0, va_rf (some this)), (1, .int x1), (2, .int x2), (3, .int x3), (4, .int x4), (5, .int x5), (7, .int x7), (8, .int x8), (9, .int x9)]) (dd TX12_order_2 33 rfl) (by decide) (by first | rfl | (simp only [List.filter, cat_rf]; rfl)) ?_
  refine ok_aload_n (dd TX12_order_2 34 rfl) 4 rfl ?_
  refine ok_gP fl_RX12_60 rfl (dd TX12_order_2 35 rfl) (fun v27 => ?_)
  refine ok_iload (dd TX12_order_2 36 rfl) 0 rfl ?_
  refine ok_iload_n (dd TX12_order_2 37 rfl) 7 rfl ?_
  refine ok_stI (kd := 288) (by decide) rfl (dd TX12_order_2 38 rfl) ?_
  refine ok_aload_n (dd TX12_order_2 39 rfl) 4 rfl ?_
  refine ok_gP fl_RX12_60 rfl (dd TX12_order_3 0 rfl) (fun v28 => ?_)
  refine ok_iload (dd TX12_order_3 1 rfl) 0 rfl ?_
  refine ok_iconst (v := (1 : Int32)) (dd TX12_order_3 2 rfl) (by decide) ?_
  refine ok_iadd (dd TX12_order_3 3 rfl) ?_
  refine ok_iload (dd TX12_order_3 4 rfl) 1 rfl ?_
  refine ok_stI (kd := 288) (by decide) rfl (dd TX12_order_3 5 rfl) ?_
  refine ok_aload_n (dd TX12_order_3 6 rfl) 4 rfl ?_
  refine ok_gP fl_RX12_60 rfl (dd TX12_order_3 7 rfl) (fun v29 => ?_)
  refine ok_iload (dd TX12_order_3 8 rfl) 0 rfl ?_
  refine ok_iconst (v := (2 : Int32)) (dd TX12_order_3 9 rfl) (by decide) ?_
  refine ok_iadd (dd TX12_order_3 10 rfl) ?_
  refine ok_iload (dd TX12_order_3 11 rfl) 3 rfl ?_
  refine ok_stI (kd := 288) (by decide) rfl (dd TX12_order_3 12 rfl) ?_
  refine ok_aload_n (dd TX12_order_3 13 rfl) 4 rfl ?_
  refine ok_gP fl_RX12_60 rfl (dd TX12_order_3 14 rfl) (fun v30 => ?_)
  refine ok_iload (dd TX12_order_3 15 rfl) 0 rfl ?_
  refine ok_iconst (v := (3 : Int32)) (dd TX12_order_3 16 rfl) (by decide) ?_
  refine ok_iadd (dd TX12_order_3 17 rfl) ?_
  refine ok_iload_n (dd TX12_order_3 18 rfl) 6 rfl ?_
  refine ok_if_eq (tgt := 245) (dd TX12_order_3 19 rfl) (by decide) ?_ ?_
  · refine ok_iload (dd TX12_order_3 22 rfl) 2 rfl ?_
    refine ok_sub [4, 5, 6, 7, 8, 9, 10, 11, 12, 3, 2, 1, 0] rfl ?_
    exact O_X12_order_L247 Γ k35 hk35 this x1 x2 x3 x4 x5 x7 x8 x9 y0 v23 v25 ((7 : Int32) * v26) v23 (((7 : Int32) * v26) + (3 : Int32)) v30
  · refine ok_iload_n (dd TX12_order_3 20 rfl) 5 rfl ?_
    refine ok_goto (tgt := 247) (dd TX12_order_3 21 rfl) (by decide) ?_
    refine ok_sub [4, 5, 6, 7, 8, 9, 10, 11, 12, 3, 2, 1, 0] rfl ?_
    exact O_X12_order_L247 Γ k35 hk35 this x1 x2 x3 x4 x5 x7 x8 x9 y0 v23 v25 ((7 : Int32) * v26) x1 (((7 : Int32) * v26) + (3 : Int32)) v30
def F_X12_order_L122 (k35 : Nat → Int32 → Int32 → Int32 → Int32 → Int32 → Int32 → Int32 → M Int32) (this : Nat) (x1 : Int32) (x2 : Int32) (x3 : Int32) (x4 : Int32) (x5 : Int32) (x7 : Int32) (x9 : Int32) (y0 : Int32) : M Int32 := if ¬ y0 = 0 then bn (gP 12 20 (some this)) fun v18 => bn (lI 280 v18 (((5 : Int32) * x9) + (4 : Int32))) fun v19 => if x7 ≤ v19 then F_X12_order_L164 k35 this x1 x2 x3 x4 x5 x7 y0 x9 x7 else bn (gP 12 20 (some this)) fun v20 => bn (lI 280 v20 (((5 : Int32) * x9) + (4 : Int32))) fun v21 => F_X12_order_L164 k35 this x1 x2 x3 x4 x5 x7 y0 x9 v21 else k35 this x1 x2 x3 x4 x5 x7 y0
set_option maxRecDepth 100000 in
theorem O_X12_order_L122 (Γ : Gam) (k35 : Nat → Int32 → Int32 → Int32 → Int32 → Int32 → Int32 → Int32 → M Int32) (hk35 : ∀ (z0 : Nat) (z1 : Int32) (z2 : Int32) (z3 : Int32) (z4 : Int32) (z5 : Int32) (z7 : Int32) (z8 : Int32), Ok Γ mX12_order 103 (qo Γ vI) 35 [(0, va_rf (some z0)), (1, .int z1), (2, .int z2), (3, .int z3), (4, .int z4), (5, .int z5), (7, .int z7), (8, .int z8)] [] (k35 z0 z1 z2 z3 z4 z5 z7 z8)) (this : Nat) (x1 : Int32) (x2 : Int32) (x3 : Int32) (x4 : Int32) (x5 : Int32) (x7 : Int32) (x9 : Int32) (y0 : Int32) : Ok Γ mX12_order 103 (qo Γ vI) 122 [(0, va_rf (some this)), (1, .int x1), (2, .int x2), (3, .int x3), (4, .int x4), (5, .int x5), (7, .int x7), (9, .int x9)] [.int y0] (F_X12_order_L122 k35 this x1 x2 x3 x4 x5 x7 x9 y0) := by
  unfold F_X12_order_L122
  refine ok_istore (lv' := [(8, .int y0), (0, va_rf (some this)), (1, .int x1), (2, .int x2), (3, .int x3), (4, .int x4), (5, .int x5), (7, .int x7), (9, .int x9)]) (dd TX12_order_1 28 rfl) (by decide) (by first | rfl | (simp only [List.filter, cat_rf]; rfl)) ?_
  refine ok_iload (dd TX12_order_1 29 rfl) 0 rfl ?_
  refine ok_if_ne (tgt := 132) (dd TX12_order_1 30 rfl) (by decide) ?_ ?_
  · refine ok_aload_n (dd TX12_order_1 32 rfl) 1 rfl ?_
    refine ok_gP fl_RX12_57 rfl (dd TX12_order_1 33 rfl) (fun v18 => ?_)
    refine ok_iconst (v := (5 : Int32)) (dd TX12_order_1 34 rfl) (by decide) ?_
    refine ok_iload (dd TX12_order_1 35 rfl) 8 rfl ?_
    refine ok_imul (dd TX12_order_1 36 rfl) ?_
    refine ok_iconst (v := (4 : Int32)) (dd TX12_order_1 37 rfl) (by decide) ?_
    refine ok_iadd (dd TX12_order_1 38 rfl) ?_
    refine ok_lI (kd := 280) (by decide) rfl (dd TX12_order_1 39 rfl) (fun v19 => ?_)
    refine ok_iload (dd TX12_order_2 0 rfl) 7 rfl ?_
    refine ok_icmp_ge (tgt := 162) (dd TX12_order_2 1 rfl) (by decide) ?_ ?_
    · refine ok_iload (dd TX12_order_2 11 rfl) 7 rfl ?_
      refine ok_sub [1, 2, 3, 4, 5, 6, 7, 0, 8] rfl ?_
      exact O_X12_order_L164 Γ k35 hk35 this x1 x2 x3 x4 x5 x7 y0 x9 x7
    · refine ok_aload_n (dd TX12_order_2 2 rfl) 1 rfl ?_
      refine ok_gP fl_RX12_57 rfl (dd TX12_order_2 3 rfl) (fun v20 => ?_)
      refine ok_iconst (v := (5 : Int32)) (dd TX12_order_2 4 rfl) (by decide) ?_
      refine ok_iload (dd TX12_order_2 5 rfl) 8 rfl ?_
      refine ok_imul (dd TX12_order_2 6 rfl) ?_
      refine ok_iconst (v := (4 : Int32)) (dd TX12_order_2 7 rfl) (by decide) ?_
      refine ok_iadd (dd TX12_order_2 8 rfl) ?_
      refine ok_lI (kd := 280) (by decide) rfl (dd TX12_order_2 9 rfl) (fun v21 => ?_)
      refine ok_goto (tgt := 164) (dd TX12_order_2 10 rfl) (by decide) ?_
      refine ok_sub [1, 2, 3, 4, 5, 6, 7, 0, 8] rfl ?_
      exact O_X12_order_L164 Γ k35 hk35 this x1 x2 x3 x4 x5 x7 y0 x9 v21
  · refine ok_goto (tgt := 35) (dd TX12_order_1 31 rfl) (by decide) ?_
    refine ok_sub [1, 2, 3, 4, 5, 6, 7, 0] rfl ?_
    exact hk35 this x1 x2 x3 x4 x5 x7 y0
def F_X12_order_L121 (k35 : Nat → Int32 → Int32 → Int32 → Int32 → Int32 → Int32 → Int32 → M Int32) (this : Nat) (x1 : Int32) (x2 : Int32) (x3 : Int32) (x4 : Int32) (x5 : Int32) (x7 : Int32) (x9 : Int32) : M Int32 := F_X12_order_L122 k35 this x1 x2 x3 x4 x5 x7 x9 (0 : Int32)
set_option maxRecDepth 100000 in
theorem O_X12_order_L121 (Γ : Gam) (k35 : Nat → Int32 → Int32 → Int32 → Int32 → Int32 → Int32 → Int32 → M Int32) (hk35 : ∀ (z0 : Nat) (z1 : Int32) (z2 : Int32) (z3 : Int32) (z4 : Int32) (z5 : Int32) (z7 : Int32) (z8 : Int32), Ok Γ mX12_order 103 (qo Γ vI) 35 [(0, va_rf (some z0)), (1, .int z1), (2, .int z2), (3, .int z3), (4, .int z4), (5, .int z5), (7, .int z7), (8, .int z8)] [] (k35 z0 z1 z2 z3 z4 z5 z7 z8)) (this : Nat) (x1 : Int32) (x2 : Int32) (x3 : Int32) (x4 : Int32) (x5 : Int32) (x7 : Int32) (x9 : Int32) : Ok Γ mX12_order 103 (qo Γ vI) 121 [(0, va_rf (some this)), (1, .int x1), (2, .int x2), (3, .int x3), (4, .int x4), (5, .int x5), (7, .int x7), (9, .int x9)] [] (F_X12_order_L121 k35 this x1 x2 x3 x4 x5 x7 x9) := by
  unfold F_X12_order_L121
  refine ok_iconst (v := (0 : Int32)) (dd TX12_order_1 27 rfl) (by decide) ?_
  exact O_X12_order_L122 Γ k35 hk35 this x1 x2 x3 x4 x5 x7 x9 (0 : Int32)
def F_X12_order_L117 (k35 : Nat → Int32 → Int32 → Int32 → Int32 → Int32 → Int32 → Int32 → M Int32) (this : Nat) (x1 : Int32) (x2 : Int32) (x3 : Int32) (x4 : Int32) (x5 : Int32) (x7 : Int32) (x9 : Int32) : M Int32 := F_X12_order_L122 k35 this x1 x2 x3 x4 x5 x7 x9 (1 : Int32)
set_option maxRecDepth 100000 in
theorem O_X12_order_L117 (Γ : Gam) (k35 : Nat → Int32 → Int32 → Int32 → Int32 → Int32 → Int32 → Int32 → M Int32) (hk35 : ∀ (z0 : Nat) (z1 : Int32) (z2 : Int32) (z3 : Int32) (z4 : Int32) (z5 : Int32) (z7 : Int32) (z8 : Int32), Ok Γ mX12_order 103 (qo Γ vI) 35 [(0, va_rf (some z0)), (1, .int z1), (2, .int z2), (3, .int z3), (4, .int z4), (5, .int z5), (7, .int z7), (8, .int z8)] [] (k35 z0 z1 z2 z3 z4 z5 z7 z8)) (this : Nat) (x1 : Int32) (x2 : Int32) (x3 : Int32) (x4 : Int32) (x5 : Int32) (x7 : Int32) (x9 : Int32) : Ok Γ mX12_order 103 (qo Γ vI) 117 [(0, va_rf (some this)), (1, .int x1), (2, .int x2), (3, .int x3), (4, .int x4), (5, .int x5), (7, .int x7), (9, .int x9)] [] (F_X12_order_L117 k35 this x1 x2 x3 x4 x5 x7 x9) := by
  unfold F_X12_order_L117
  refine ok_iconst (v := (1 : Int32)) (dd TX12_order_1 25 rfl) (by decide) ?_
  refine ok_goto (tgt := 122) (dd TX12_order_1 26 rfl) (by decide) ?_
  exact O_X12_order_L122 Γ k35 hk35 this x1 x2 x3 x4 x5 x7 x9 (1 : Int32)
def F_X12_order_L65 (k35 : Nat → Int32 → Int32 → Int32 → Int32 → Int32 → Int32 → Int32 → M Int32) (this : Nat) (x1 : Int32) (x2 : Int32) (x3 : Int32) (x4 : Int32) (x5 : Int32) (x7 : Int32) (y0 : Int32) (y1 : Option Nat) : M Int32 := bn (pRc 12 y1) fun b8 => bn (F_X12_ranked b8 y0 x3 (0 : Int32)) fun v9 => if v9 = (-1 : Int32) then F_X12_order_L121 k35 this x1 x2 x3 x4 x5 x7 v9 else if x2 = 0 then bn (gP 12 20 (some this)) fun v10 => bn (lI 280 v10 (((5 : Int32) * v9) + (3 : Int32))) fun v11 => if v11 < x4 then F_X12_order_L121 k35 this x1 x2 x3 x4 x5 x7 v9 else F_X12_order_L117 k35 this x1 x2 x3 x4 x5 x7 v9 else bn (gP 12 20 (some this)) fun v12 => bn (lI 280 v12 (((5 : Int32) * v9) + (3 : Int32))) fun v13 => if x4 < v13 then F_X12_order_L121 k35 this x1 x2 x3 x4 x5 x7 v9 else F_X12_order_L117 k35 this x1 x2 x3 x4 x5 x7 v9
set_option maxRecDepth 100000 in
theorem O_X12_order_L65 (Γ : Gam) (k35 : Nat → Int32 → Int32 → Int32 → Int32 → Int32 → Int32 → Int32 → M Int32) (hk35 : ∀ (z0 : Nat) (z1 : Int32) (z2 : Int32) (z3 : Int32) (z4 : Int32) (z5 : Int32) (z7 : Int32) (z8 : Int32), Ok Γ mX12_order 103 (qo Γ vI) 35 [(0, va_rf (some z0)), (1, .int z1), (2, .int z2), (3, .int z3), (4, .int z4), (5, .int z5), (7, .int z7), (8, .int z8)] [] (k35 z0 z1 z2 z3 z4 z5 z7 z8)) (this : Nat) (x1 : Int32) (x2 : Int32) (x3 : Int32) (x4 : Int32) (x5 : Int32) (x7 : Int32) (y0 : Int32) (y1 : Option Nat) : Ok Γ mX12_order 103 (qo Γ vI) 65 [(0, va_rf (some this)), (1, .int x1), (2, .int x2), (3, .int x3), (4, .int x4), (5, .int x5), (7, .int x7)] [.int y0, va_rf y1] (F_X12_order_L65 k35 this x1 x2 x3 x4 x5 x7 y0 y1) := by
  unfold F_X12_order_L65
  refine ok_iload_n (dd TX12_order_0 35 rfl) 3 rfl ?_
  refine ok_iconst (v := (0 : Int32)) (dd TX12_order_0 36 rfl) (by decide) ?_
  refine ok_callVI (cn := 12) [.int y0, .int x3, .int (0 : Int32)] [] (fun b8 => C_X12_ranked Γ b8 y0 x3 (0 : Int32)) rfl cy_X12_ranked ml_RX12_277 im_X12_ranked se_X12_ranked (by decide) (Nat.le_of_ble_eq_true rfl) rfl (dd TX12_order_0 37 rfl) (fun v9 => ?_)
  refine ok_istore (lv' := [(9, .int v9), (0, va_rf (some this)), (1, .int x1), (2, .int x2), (3, .int x3), (4, .int x4), (5, .int x5), (7, .int x7)]) (dd TX12_order_0 38 rfl) (by decide) (by first | rfl | (simp only [List.filter, cat_rf]; rfl)) ?_
  refine ok_iload (dd TX12_order_0 39 rfl) 0 rfl ?_
  refine ok_iconst (v := (-1 : Int32)) (dd TX12_order_1 0 rfl) (by decide) ?_
  refine ok_icmp_eq (tgt := 121) (dd TX12_order_1 1 rfl) (by decide) ?_ ?_
  · refine ok_sub [1, 2, 3, 4, 5, 6, 7, 0] rfl ?_
    exact O_X12_order_L121 Γ k35 hk35 this x1 x2 x3 x4 x5 x7 v9
  · refine ok_iload_n (dd TX12_order_1 2 rfl) 3 rfl ?_
    refine ok_if_eq (tgt := 101) (dd TX12_order_1 3 rfl) (by decide) ?_ ?_
    · refine ok_aload_n (dd TX12_order_1 15 rfl) 1 rfl ?_
      refine ok_gP fl_RX12_57 rfl (dd TX12_order_1 16 rfl) (fun v10 => ?_)
      refine ok_iconst (v := (5 : Int32)) (dd TX12_order_1 17 rfl) (by decide) ?_
      refine ok_iload (dd TX12_order_1 18 rfl) 0 rfl ?_
      refine ok_imul (dd TX12_order_1 19 rfl) ?_
      refine ok_iconst (v := (3 : Int32)) (dd TX12_order_1 20 rfl) (by decide) ?_
      refine ok_iadd (dd TX12_order_1 21 rfl) ?_
      refine ok_lI (kd := 280) (by decide) rfl (dd TX12_order_1 22 rfl) (fun v11 => ?_)
      refine ok_iload (dd TX12_order_1 23 rfl) 5 rfl ?_
      refine ok_icmp_lt (tgt := 121) (dd TX12_order_1 24 rfl) (by decide) ?_ ?_
      · refine ok_sub [1, 2, 3, 4, 5, 6, 7, 0] rfl ?_
        exact O_X12_order_L121 Γ k35 hk35 this x1 x2 x3 x4 x5 x7 v9
      · refine ok_sub [1, 2, 3, 4, 5, 6, 7, 0] rfl ?_
        exact O_X12_order_L117 Γ k35 hk35 this x1 x2 x3 x4 x5 x7 v9
    · refine ok_aload_n (dd TX12_order_1 4 rfl) 1 rfl ?_
      refine ok_gP fl_RX12_57 rfl (dd TX12_order_1 5 rfl) (fun v12 => ?_)
      refine ok_iconst (v := (5 : Int32)) (dd TX12_order_1 6 rfl) (by decide) ?_
      refine ok_iload (dd TX12_order_1 7 rfl) 0 rfl ?_
      refine ok_imul (dd TX12_order_1 8 rfl) ?_
      refine ok_iconst (v := (3 : Int32)) (dd TX12_order_1 9 rfl) (by decide) ?_
      refine ok_iadd (dd TX12_order_1 10 rfl) ?_
      refine ok_lI (kd := 280) (by decide) rfl (dd TX12_order_1 11 rfl) (fun v13 => ?_)
      refine ok_iload (dd TX12_order_1 12 rfl) 5 rfl ?_
      refine ok_icmp_gt (tgt := 121) (dd TX12_order_1 13 rfl) (by decide) ?_ ?_
      · refine ok_sub [1, 2, 3, 4, 5, 6, 7, 0] rfl ?_
        exact O_X12_order_L121 Γ k35 hk35 this x1 x2 x3 x4 x5 x7 v9
      · refine ok_goto (tgt := 117) (dd TX12_order_1 14 rfl) (by decide) ?_
        refine ok_sub [1, 2, 3, 4, 5, 6, 7, 0] rfl ?_
        exact O_X12_order_L117 Γ k35 hk35 this x1 x2 x3 x4 x5 x7 v9
def F_X12_order_L35 : Nat → Nat → Int32 → Int32 → Int32 → Int32 → Int32 → Int32 → Int32 → M Int32
  | 0 => fun _ _ _ _ _ _ _ _ => fl
  | n + 1 => fun this x1 x2 x3 x4 x5 x7 x8 => if x8 = 0 then F_X12_order_L374 this x1 x2 x3 x4 x5 x7 else if x7 ≤ 0 then F_X12_order_L374 this x1 x2 x3 x4 x5 x7 else bn (gI 12 23 (some this)) fun v3 => if (700 : Int32) ≤ v3 then F_X12_order_L374 this x1 x2 x3 x4 x5 x7 else if ¬ x2 = 0 then F_X12_order_L65 (F_X12_order_L35 n) this x1 x2 x3 x4 x5 x7 (0 : Int32) (some this) else F_X12_order_L65 (F_X12_order_L35 n) this x1 x2 x3 x4 x5 x7 (1 : Int32) (some this)
set_option maxRecDepth 100000 in
theorem O_X12_order_L35 (Γ : Gam) (n : Nat) : ∀ (this : Nat) (x1 : Int32) (x2 : Int32) (x3 : Int32) (x4 : Int32) (x5 : Int32) (x7 : Int32) (x8 : Int32), Ok Γ mX12_order 103 (qo Γ vI) 35 [(0, va_rf (some this)), (1, .int x1), (2, .int x2), (3, .int x3), (4, .int x4), (5, .int x5), (7, .int x7), (8, .int x8)] [] (F_X12_order_L35 n this x1 x2 x3 x4 x5 x7 x8) := by
  induction n with
  | zero => intro this x1 x2 x3 x4 x5 x7 x8; exact ok_fl
  | succ n ih =>
    intro this x1 x2 x3 x4 x5 x7 x8
    rw [F_X12_order_L35]
    refine ok_iload (dd TX12_order_0 21 rfl) 7 rfl ?_
    refine ok_if_eq (tgt := 374) (dd TX12_order_0 22 rfl) (by decide) ?_ ?_
    · refine ok_sub [0, 1, 2, 3, 4, 5, 6] rfl ?_
      exact O_X12_order_L374 Γ this x1 x2 x3 x4 x5 x7
    · refine ok_iload (dd TX12_order_0 23 rfl) 6 rfl ?_
      refine ok_if_le (tgt := 374) (dd TX12_order_0 24 rfl) (by decide) ?_ ?_
      · refine ok_sub [0, 1, 2, 3, 4, 5, 6] rfl ?_
        exact O_X12_order_L374 Γ this x1 x2 x3 x4 x5 x7
      · refine ok_aload_n (dd TX12_order_0 25 rfl) 0 rfl ?_
        refine ok_gI fl_RX12_270 rfl (dd TX12_order_0 26 rfl) (fun v3 => ?_)
        refine ok_sipush (v := (700 : Int32)) (dd TX12_order_0 27 rfl) (by decide) ?_
        refine ok_icmp_ge (tgt := 374) (dd TX12_order_0 28 rfl) (by decide) ?_ ?_
        · refine ok_sub [0, 1, 2, 3, 4, 5, 6] rfl ?_
          exact O_X12_order_L374 Γ this x1 x2 x3 x4 x5 x7
        · refine ok_aload_n (dd TX12_order_0 29 rfl) 0 rfl ?_
          refine ok_iload_n (dd TX12_order_0 30 rfl) 2 rfl ?_
          refine ok_if_ne (tgt := 64) (dd TX12_order_0 31 rfl) (by decide) ?_ ?_
          · refine ok_iconst (v := (0 : Int32)) (dd TX12_order_0 34 rfl) (by decide) ?_
            refine ok_sub [0, 1, 2, 3, 4, 5, 6] rfl ?_
            exact O_X12_order_L65 Γ (F_X12_order_L35 n) ih this x1 x2 x3 x4 x5 x7 (0 : Int32) (some this)
          · refine ok_iconst (v := (1 : Int32)) (dd TX12_order_0 32 rfl) (by decide) ?_
            refine ok_goto (tgt := 65) (dd TX12_order_0 33 rfl) (by decide) ?_
            refine ok_sub [0, 1, 2, 3, 4, 5, 6] rfl ?_
            exact O_X12_order_L65 Γ (F_X12_order_L35 n) ih this x1 x2 x3 x4 x5 x7 (1 : Int32) (some this)
def F_X12_order (this : Nat) (p0 : Int32) (p1 : Int32) (p2 : Int32) (p3 : Int32) (p4 : Int32) : M Int32 := bn (wI 12 35 (some this) (0 : Int32)) fun _ => bn (pRc 12 (some this)) fun b1 => bn (F_X12_reason b1 p0 p1 p2 p3 p4) fun v2 => if v2 ≤ 0 then F_X12_order_L35 FU this p0 p1 p2 p3 p4 p4 (1 : Int32) else rt ((-1 : Int32) - v2)
set_option maxRecDepth 100000 in
theorem C_X12_order (Γ : Gam) (this : Nat) (p0 : Int32) (p1 : Int32) (p2 : Int32) (p3 : Int32) (p4 : Int32) : Ct Γ mX12_order 103 vI [va_rf (some this), .int p0, .int p1, .int p2, .int p3, .int p4] (F_X12_order this p0 p1 p2 p3 p4) := by
  refine ct_in (lv := [(0, va_rf (some this)), (1, .int p0), (2, .int p1), (3, .int p2), (4, .int p3), (5, .int p4)]) (by decide) (by first | rfl | (simp only [lv_args, cat_rf]; rfl)) (by first | exact Nat.le_of_ble_eq_true rfl | (rw [lg_len]; simp only [List.map_cons, List.map_nil, cat_rf]; exact Nat.le_of_ble_eq_true rfl)) ?_
  unfold F_X12_order
  refine ok_aload_n (dd TX12_order_0 0 rfl) 0 rfl ?_
  refine ok_iconst (v := (0 : Int32)) (dd TX12_order_0 1 rfl) (by decide) ?_
  refine ok_wI fl_RX12_90 (Or.inl rfl) (tyX12_ok 35 (by decide)) (by decide) rfl (dd TX12_order_0 2 rfl) ?_
  refine ok_aload_n (dd TX12_order_0 3 rfl) 0 rfl ?_
  refine ok_iload_n (dd TX12_order_0 4 rfl) 1 rfl ?_
  refine ok_iload_n (dd TX12_order_0 5 rfl) 2 rfl ?_
  refine ok_iload_n (dd TX12_order_0 6 rfl) 3 rfl ?_
  refine ok_iload (dd TX12_order_0 7 rfl) 4 rfl ?_
  refine ok_iload (dd TX12_order_0 8 rfl) 5 rfl ?_
  refine ok_callVI (cn := 12) [.int p0, .int p1, .int p2, .int p3, .int p4] [] (fun b1 => C_X12_reason Γ b1 p0 p1 p2 p3 p4) rfl cy_X12_reason ml_RX12_273 im_X12_reason se_X12_reason (by decide) (Nat.le_of_ble_eq_true rfl) rfl (dd TX12_order_0 9 rfl) (fun v2 => ?_)
  refine ok_istore (lv' := [(6, .int v2), (0, va_rf (some this)), (1, .int p0), (2, .int p1), (3, .int p2), (4, .int p3), (5, .int p4)]) (dd TX12_order_0 10 rfl) (by decide) (by first | rfl | (simp only [List.filter, cat_rf]; rfl)) ?_
  refine ok_iload (dd TX12_order_0 11 rfl) 0 rfl ?_
  refine ok_if_le (tgt := 28) (dd TX12_order_0 12 rfl) (by decide) ?_ ?_
  · refine ok_iload (dd TX12_order_0 17 rfl) 6 rfl ?_
    refine ok_istore (lv' := [(7, .int p4), (6, .int v2), (0, va_rf (some this)), (1, .int p0), (2, .int p1), (3, .int p2), (4, .int p3), (5, .int p4)]) (dd TX12_order_0 18 rfl) (by decide) (by first | rfl | (simp only [List.filter, cat_rf]; rfl)) ?_
    refine ok_iconst (v := (1 : Int32)) (dd TX12_order_0 19 rfl) (by decide) ?_
    refine ok_istore (lv' := [(8, .int (1 : Int32)), (7, .int p4), (6, .int v2), (0, va_rf (some this)), (1, .int p0), (2, .int p1), (3, .int p2), (4, .int p3), (5, .int p4)]) (dd TX12_order_0 20 rfl) (by decide) (by first | rfl | (simp only [List.filter, cat_rf]; rfl)) ?_
    refine ok_sub [3, 4, 5, 6, 7, 8, 1, 0] rfl ?_
    exact O_X12_order_L35 Γ FU this p0 p1 p2 p3 p4 p4 (1 : Int32)
  · refine ok_iconst (v := (-1 : Int32)) (dd TX12_order_0 13 rfl) (by decide) ?_
    refine ok_iload (dd TX12_order_0 14 rfl) 0 rfl ?_
    refine ok_isub (dd TX12_order_0 15 rfl) ?_
    exact ok_ireturn (dd TX12_order_0 16 rfl) rfl
def F_X12_waiting (this : Nat) (p0 : Int32) (p1 : Int32) (p2 : Int32) (p3 : Int32) : M Int32 := bn (wI 12 35 (some this) (0 : Int32)) fun _ => bn (F_X12_isMonth p1) fun v1 => if v1 = 0 then rt (-1 : Int32) else if p2 < 0 then rt (-1 : Int32) else bn (gI 12 21 (some this)) fun v2 => if v2 ≤ p2 then rt (-1 : Int32) else bn (F_X12_in p3.toInt64 (0 : Int64) (2 : Int64)) fun v3 => if ¬ v3 = 0 then bn (pRc 12 (some this)) fun b4 => bn (F_X12_ranked b4 p0 p1 p2) fun v5 => if ¬ v5 = (-1 : Int32) then bn (gP 12 20 (some this)) fun v6 => if ¬ p3 = 0 then bn (lI 280 v6 (((5 : Int32) * v5) + ((2 : Int32) + p3))) fun v7 => rt v7 else bn (lI 280 v6 (((5 : Int32) * v5) + (0 : Int32))) fun v8 => rt v8 else rt (-1 : Int32) else rt (-1 : Int32)
set_option maxRecDepth 100000 in
theorem C_X12_waiting (Γ : Gam) (this : Nat) (p0 : Int32) (p1 : Int32) (p2 : Int32) (p3 : Int32) : Ct Γ mX12_waiting 2 vI [va_rf (some this), .int p0, .int p1, .int p2, .int p3] (F_X12_waiting this p0 p1 p2 p3) := by
  refine ct_in (lv := [(0, va_rf (some this)), (1, .int p0), (2, .int p1), (3, .int p2), (4, .int p3)]) (by decide) (by first | rfl | (simp only [lv_args, cat_rf]; rfl)) (by first | exact Nat.le_of_ble_eq_true rfl | (rw [lg_len]; simp only [List.map_cons, List.map_nil, cat_rf]; exact Nat.le_of_ble_eq_true rfl)) ?_
  unfold F_X12_waiting
  refine ok_aload_n (dd TX12_waiting_0 0 rfl) 0 rfl ?_
  refine ok_iconst (v := (0 : Int32)) (dd TX12_waiting_0 1 rfl) (by decide) ?_
  refine ok_wI fl_RX12_90 (Or.inl rfl) (tyX12_ok 35 (by decide)) (by decide) rfl (dd TX12_waiting_0 2 rfl) ?_
  refine ok_iload_n (dd TX12_waiting_0 3 rfl) 2 rfl ?_
  refine ok_callSI [.int p1] [] (C_X12_isMonth Γ p1) cy_X12_isMonth ml_RX12_255 sm_X12_isMonth (by decide) (Nat.le_of_ble_eq_true rfl) rfl (dd TX12_waiting_0 4 rfl) (fun v1 => ?_)
  refine ok_if_eq (tgt := 37) (dd TX12_waiting_0 5 rfl) (by decide) ?_ ?_
  · refine ok_iconst (v := (-1 : Int32)) (dd TX12_waiting_0 18 rfl) (by decide) ?_
    exact ok_ireturn (dd TX12_waiting_0 19 rfl) rfl
  · refine ok_iload_n (dd TX12_waiting_0 6 rfl) 3 rfl ?_
    refine ok_if_lt (tgt := 37) (dd TX12_waiting_0 7 rfl) (by decide) ?_ ?_
    · refine ok_iconst (v := (-1 : Int32)) (dd TX12_waiting_0 18 rfl) (by decide) ?_
      exact ok_ireturn (dd TX12_waiting_0 19 rfl) rfl
    · refine ok_iload_n (dd TX12_waiting_0 8 rfl) 3 rfl ?_
      refine ok_aload_n (dd TX12_waiting_0 9 rfl) 0 rfl ?_
      refine ok_gI fl_RX12_245 rfl (dd TX12_waiting_0 10 rfl) (fun v2 => ?_)
      refine ok_icmp_ge (tgt := 37) (dd TX12_waiting_0 11 rfl) (by decide) ?_ ?_
      · refine ok_iconst (v := (-1 : Int32)) (dd TX12_waiting_0 18 rfl) (by decide) ?_
        exact ok_ireturn (dd TX12_waiting_0 19 rfl) rfl
      · refine ok_iload (dd TX12_waiting_0 12 rfl) 4 rfl ?_
        refine ok_i2l (dd TX12_waiting_0 13 rfl) ?_
        refine ok_lconst (v := (0 : Int64)) (dd TX12_waiting_0 14 rfl) (by decide) ?_
        refine ok_ldc2 (v := (2 : Int64)) (dd TX12_waiting_0 15 rfl) cl2_RX12_288 ?_
        refine ok_callSI [.long p3.toInt64, .long (0 : Int64), .long (2 : Int64)] [] (C_X12_in Γ p3.toInt64 (0 : Int64) (2 : Int64)) cy_X12_in ml_RX12_97 sm_X12_in (by decide) (Nat.le_of_ble_eq_true rfl) rfl (dd TX12_waiting_0 16 rfl) (fun v3 => ?_)
        refine ok_if_ne (tgt := 39) (dd TX12_waiting_0 17 rfl) (by decide) ?_ ?_
        · refine ok_aload_n (dd TX12_waiting_0 20 rfl) 0 rfl ?_
          refine ok_iload_n (dd TX12_waiting_0 21 rfl) 1 rfl ?_
          refine ok_iload_n (dd TX12_waiting_0 22 rfl) 2 rfl ?_
          refine ok_iload_n (dd TX12_waiting_0 23 rfl) 3 rfl ?_
          refine ok_callVI (cn := 12) [.int p0, .int p1, .int p2] [] (fun b4 => C_X12_ranked Γ b4 p0 p1 p2) rfl cy_X12_ranked ml_RX12_277 im_X12_ranked se_X12_ranked (by decide) (Nat.le_of_ble_eq_true rfl) rfl (dd TX12_waiting_0 24 rfl) (fun v5 => ?_)
          refine ok_istore (lv' := [(5, .int v5), (0, va_rf (some this)), (1, .int p0), (2, .int p1), (3, .int p2), (4, .int p3)]) (dd TX12_waiting_0 25 rfl) (by decide) (by first | rfl | (simp only [List.filter, cat_rf]; rfl)) ?_
          refine ok_iload (dd TX12_waiting_0 26 rfl) 0 rfl ?_
          refine ok_iconst (v := (-1 : Int32)) (dd TX12_waiting_0 27 rfl) (by decide) ?_
          refine ok_icmp_ne (tgt := 58) (dd TX12_waiting_0 28 rfl) (by decide) ?_ ?_
          · refine ok_aload_n (dd TX12_waiting_0 31 rfl) 1 rfl ?_
            refine ok_gP fl_RX12_57 rfl (dd TX12_waiting_0 32 rfl) (fun v6 => ?_)
            refine ok_iconst (v := (5 : Int32)) (dd TX12_waiting_0 33 rfl) (by decide) ?_
            refine ok_iload (dd TX12_waiting_0 34 rfl) 0 rfl ?_
            refine ok_imul (dd TX12_waiting_0 35 rfl) ?_
            refine ok_iload (dd TX12_waiting_0 36 rfl) 5 rfl ?_
            refine ok_if_ne (tgt := 75) (dd TX12_waiting_0 37 rfl) (by decide) ?_ ?_
            · refine ok_iconst (v := (2 : Int32)) (dd TX12_waiting_1 0 rfl) (by decide) ?_
              refine ok_iload (dd TX12_waiting_1 1 rfl) 5 rfl ?_
              refine ok_iadd (dd TX12_waiting_1 2 rfl) ?_
              refine ok_iadd (dd TX12_waiting_1 3 rfl) ?_
              refine ok_lI (kd := 280) (by decide) rfl (dd TX12_waiting_1 4 rfl) (fun v7 => ?_)
              exact ok_ireturn (dd TX12_waiting_1 5 rfl) rfl
            · refine ok_iconst (v := (0 : Int32)) (dd TX12_waiting_0 38 rfl) (by decide) ?_
              refine ok_goto (tgt := 79) (dd TX12_waiting_0 39 rfl) (by decide) ?_
              refine ok_iadd (dd TX12_waiting_1 3 rfl) ?_
              refine ok_lI (kd := 280) (by decide) rfl (dd TX12_waiting_1 4 rfl) (fun v8 => ?_)
              exact ok_ireturn (dd TX12_waiting_1 5 rfl) rfl
          · refine ok_iconst (v := (-1 : Int32)) (dd TX12_waiting_0 29 rfl) (by decide) ?_
            refine ok_goto (tgt := 81) (dd TX12_waiting_0 30 rfl) (by decide) ?_
            exact ok_ireturn (dd TX12_waiting_1 5 rfl) rfl
        · refine ok_iconst (v := (-1 : Int32)) (dd TX12_waiting_0 18 rfl) (by decide) ?_
          exact ok_ireturn (dd TX12_waiting_0 19 rfl) rfl
def F_X12_need_L68 (k5 : Nat → Int32 → Int32 → Int64 → Int32 → M Int64) (this : Nat) (x1 : Int32) (x2 : Int32) (x3 : Int64) (x5 : Int32) : M Int64 := k5 this x1 x2 x3 (x5 + (1 : Int32))
set_option maxRecDepth 100000 in
theorem O_X12_need_L68 (Γ : Gam) (k5 : Nat → Int32 → Int32 → Int64 → Int32 → M Int64) (hk5 : ∀ (z0 : Nat) (z1 : Int32) (z2 : Int32) (z3 : Int64) (z5 : Int32), Ok Γ mX12_need 102 (qo Γ vL) 5 [(0, va_rf (some z0)), (1, .int z1), (2, .int z2), (3, .long z3), (5, .int z5)] [] (k5 z0 z1 z2 z3 z5)) (this : Nat) (x1 : Int32) (x2 : Int32) (x3 : Int64) (x5 : Int32) : Ok Γ mX12_need 102 (qo Γ vL) 68 [(0, va_rf (some this)), (1, .int x1), (2, .int x2), (3, .long x3), (5, .int x5)] [] (F_X12_need_L68 k5 this x1 x2 x3 x5) := by
  unfold F_X12_need_L68
  refine ok_iinc (lv' := [(5, .int (x5 + (1 : Int32))), (0, va_rf (some this)), (1, .int x1), (2, .int x2), (3, .long x3)]) (dd TX12_need_1 1 rfl) 4 rfl (congrArg (fun q : Int32 => x5 + q) (show Int32.ofInt (1) = (1 : Int32) from by decide)) (by decide) (by first | rfl | (simp only [List.filter, cat_rf]; rfl)) ?_
  refine ok_goto (tgt := 5) (dd TX12_need_1 2 rfl) (by decide) ?_
  refine ok_sub [1, 2, 3, 4, 0] rfl ?_
  exact hk5 this x1 x2 x3 (x5 + (1 : Int32))
def F_X12_need_L5 : Nat → Nat → Int32 → Int32 → Int64 → Int32 → M Int64
  | 0 => fun _ _ _ _ _ => fl
  | n + 1 => fun this x1 x2 x3 x5 => if (6 : Int32) ≤ x5 then rt x3 else bn (gP 12 14 (some this)) fun v1 => bn (lI 232 v1 (((6 : Int32) * x1) + x5)) fun v2 => bn (gI 12 24 (some this)) fun v3 => bn (gP 12 47 (some this)) fun v4 => bn (lI 360 v4 x5) fun v5 => bn (pRc 12 (some this)) fun b6 => bn (F_X12_ruleOf b6 x2 v3 x5 v5 (if 0 ≤ v2 then v2 else 0 - v2) (0 : Int32) (0 : Int32)) fun v7 => if v7 ≤ 0 then F_X12_need_L68 (F_X12_need_L5 n) this x1 x2 x3 x5 else F_X12_need_L68 (F_X12_need_L5 n) this x1 x2 (x3 + (((if 0 ≤ v2 then v2 else 0 - v2).toInt64) * v7.toInt64)) x5
set_option maxRecDepth 100000 in
theorem O_X12_need_L5 (Γ : Gam) (n : Nat) : ∀ (this : Nat) (x1 : Int32) (x2 : Int32) (x3 : Int64) (x5 : Int32), Ok Γ mX12_need 102 (qo Γ vL) 5 [(0, va_rf (some this)), (1, .int x1), (2, .int x2), (3, .long x3), (5, .int x5)] [] (F_X12_need_L5 n this x1 x2 x3 x5) := by
  induction n with
  | zero => intro this x1 x2 x3 x5; exact ok_fl
  | succ n ih =>
    intro this x1 x2 x3 x5
    rw [F_X12_need_L5]
    refine ok_iload (dd TX12_need_0 4 rfl) 4 rfl ?_
    refine ok_bipush (v := (6 : Int32)) (dd TX12_need_0 5 rfl) (by decide) ?_
    refine ok_icmp_ge (tgt := 74) (dd TX12_need_0 6 rfl) (by decide) ?_ ?_
    · refine ok_lload_n (dd TX12_need_1 3 rfl) 3 rfl ?_
      exact ok_lreturn (dd TX12_need_1 4 rfl) rfl
    · refine ok_aload_n (dd TX12_need_0 7 rfl) 0 rfl ?_
      refine ok_gP fl_RX12_39 rfl (dd TX12_need_0 8 rfl) (fun v1 => ?_)
      refine ok_bipush (v := (6 : Int32)) (dd TX12_need_0 9 rfl) (by decide) ?_
      refine ok_iload_n (dd TX12_need_0 10 rfl) 1 rfl ?_
      refine ok_imul (dd TX12_need_0 11 rfl) ?_
      refine ok_iload (dd TX12_need_0 12 rfl) 4 rfl ?_
      refine ok_iadd (dd TX12_need_0 13 rfl) ?_
      refine ok_lI (kd := 232) (by decide) rfl (dd TX12_need_0 14 rfl) (fun v2 => ?_)
      refine ok_mabs ml_RX12_265 ms_abs w_mi mc_abs (by decide) (Nat.le_of_ble_eq_true rfl) (dd TX12_need_0 15 rfl) ?_
      refine ok_istore (lv' := [(6, .int (if 0 ≤ v2 then v2 else 0 - v2)), (0, va_rf (some this)), (1, .int x1), (2, .int x2), (3, .long x3), (5, .int x5)]) (dd TX12_need_0 16 rfl) (by decide) (by first | rfl | (simp only [List.filter, cat_rf]; rfl)) ?_
      refine ok_aload_n (dd TX12_need_0 17 rfl) 1 rfl ?_
      refine ok_iload_n (dd TX12_need_0 18 rfl) 3 rfl ?_
      refine ok_aload_n (dd TX12_need_0 19 rfl) 1 rfl ?_
      refine ok_gI fl_RX12_238 rfl (dd TX12_need_0 20 rfl) (fun v3 => ?_)
      refine ok_iload (dd TX12_need_0 21 rfl) 5 rfl ?_
      refine ok_aload_n (dd TX12_need_0 22 rfl) 1 rfl ?_
      refine ok_gP fl_RX12_87 rfl (dd TX12_need_0 23 rfl) (fun v4 => ?_)
      refine ok_iload (dd TX12_need_0 24 rfl) 5 rfl ?_
      refine ok_lI (kd := 360) (by decide) rfl (dd TX12_need_0 25 rfl) (fun v5 => ?_)
      refine ok_iload (dd TX12_need_0 26 rfl) 0 rfl ?_
      refine ok_iconst (v := (0 : Int32)) (dd TX12_need_0 27 rfl) (by decide) ?_
      refine ok_iconst (v := (0 : Int32)) (dd TX12_need_0 28 rfl) (by decide) ?_
      refine ok_callVI (cn := 12) [.int x2, .int v3, .int x5, .int v5, .int (if 0 ≤ v2 then v2 else 0 - v2), .int (0 : Int32), .int (0 : Int32)] [] (fun b6 => C_X12_ruleOf Γ b6 x2 v3 x5 v5 (if 0 ≤ v2 then v2 else 0 - v2) (0 : Int32) (0 : Int32)) rfl cy_X12_ruleOf ml_RX12_231 im_X12_ruleOf se_X12_ruleOf (by decide) (Nat.le_of_ble_eq_true rfl) rfl (dd TX12_need_0 29 rfl) (fun v7 => ?_)
      refine ok_istore (lv' := [(7, .int v7), (6, .int (if 0 ≤ v2 then v2 else 0 - v2)), (0, va_rf (some this)), (1, .int x1), (2, .int x2), (3, .long x3), (5, .int x5)]) (dd TX12_need_0 30 rfl) (by decide) (by first | rfl | (simp only [List.filter, cat_rf]; rfl)) ?_
      refine ok_iload (dd TX12_need_0 31 rfl) 0 rfl ?_
      refine ok_if_le (tgt := 68) (dd TX12_need_0 32 rfl) (by decide) ?_ ?_
      · refine ok_sub [2, 3, 4, 5, 6] rfl ?_
        exact O_X12_need_L68 Γ (F_X12_need_L5 n) ih this x1 x2 x3 x5
      · refine ok_lload_n (dd TX12_need_0 33 rfl) 5 rfl ?_
        refine ok_iload (dd TX12_need_0 34 rfl) 1 rfl ?_
        refine ok_i2l (dd TX12_need_0 35 rfl) ?_
        refine ok_iload (dd TX12_need_0 36 rfl) 0 rfl ?_
        refine ok_i2l (dd TX12_need_0 37 rfl) ?_
        refine ok_lmul (dd TX12_need_0 38 rfl) ?_
        refine ok_ladd (dd TX12_need_0 39 rfl) ?_
        refine ok_lstore_n (lv' := [(3, .long (x3 + (((if 0 ≤ v2 then v2 else 0 - v2).toInt64) * v7.toInt64))), (7, .int v7), (6, .int (if 0 ≤ v2 then v2 else 0 - v2)), (0, va_rf (some this)), (1, .int x1), (2, .int x2), (5, .int x5)]) (dd TX12_need_1 0 rfl) (by decide) (by first | rfl | (simp only [List.filter, cat_rf]; rfl)) ?_
        refine ok_sub [3, 4, 5, 0, 6] rfl ?_
        exact O_X12_need_L68 Γ (F_X12_need_L5 n) ih this x1 x2 (x3 + (((if 0 ≤ v2 then v2 else 0 - v2).toInt64) * v7.toInt64)) x5
def F_X12_need (this : Nat) (p0 : Int32) (p1 : Int32) : M Int64 := F_X12_need_L5 FU this p0 p1 (0 : Int64) (0 : Int32)
set_option maxRecDepth 100000 in
theorem C_X12_need (Γ : Gam) (this : Nat) (p0 : Int32) (p1 : Int32) : Ct Γ mX12_need 102 vL [va_rf (some this), .int p0, .int p1] (F_X12_need this p0 p1) := by
  refine ct_in (lv := [(0, va_rf (some this)), (1, .int p0), (2, .int p1)]) (by decide) (by first | rfl | (simp only [lv_args, cat_rf]; rfl)) (by first | exact Nat.le_of_ble_eq_true rfl | (rw [lg_len]; simp only [List.map_cons, List.map_nil, cat_rf]; exact Nat.le_of_ble_eq_true rfl)) ?_
  unfold F_X12_need
  refine ok_lconst (v := (0 : Int64)) (dd TX12_need_0 0 rfl) (by decide) ?_
  refine ok_lstore_n (lv' := [(3, .long (0 : Int64)), (0, va_rf (some this)), (1, .int p0), (2, .int p1)]) (dd TX12_need_0 1 rfl) (by decide) (by first | rfl | (simp only [List.filter, cat_rf]; rfl)) ?_
  refine ok_iconst (v := (0 : Int32)) (dd TX12_need_0 2 rfl) (by decide) ?_
  refine ok_istore (lv' := [(5, .int (0 : Int32)), (3, .long (0 : Int64)), (0, va_rf (some this)), (1, .int p0), (2, .int p1)]) (dd TX12_need_0 3 rfl) (by decide) (by first | rfl | (simp only [List.filter, cat_rf]; rfl)) ?_
  refine ok_sub [2, 3, 4, 1, 0] rfl ?_
  exact O_X12_need_L5 Γ FU this p0 p1 (0 : Int64) (0 : Int32)
