def F_X3_handTo (this : Nat) (p0 : Int32) : M Unit := bn (wI 3 3 (some this) p0) fun _ => bn (gI 3 6 (some this)) fun v1 => bn (wI 3 6 (some this) (v1 ||| ((1 : Int32) <<< (p0 &&& 31)))) fun _ => bn (gI 3 4 (some this)) fun v2 => bn (wI 3 4 (some this) (v2 + (1 : Int32))) fun _ => rt ()
set_option maxRecDepth 100000 in
theorem C_X3_handTo (Γ : Gam) (this : Nat) (p0 : Int32) : Ct Γ mX3_handTo 0 vV [va_rf (some this), .int p0] (F_X3_handTo this p0) := by
  refine ct_in (lv := [(0, va_rf (some this)), (1, .int p0)]) (by decide) (by first | rfl | (simp only [lv_args, cat_rf]; rfl)) (by first | exact Nat.le_of_ble_eq_true rfl | (rw [lg_len]; simp only [List.map_cons, List.map_nil, cat_rf]; exact Nat.le_of_ble_eq_true rfl)) ?_
  unfold F_X3_handTo
  refine ok_aload_n (dd TX3_handTo_0 0 rfl) 0 rfl ?_
  refine ok_iload_n (dd TX3_handTo_0 1 rfl) 1 rfl ?_
  refine ok_wI fl_RX3_24 (Or.inl rfl) (tyX3_ok 3 (by decide)) (by decide) rfl (dd TX3_handTo_0 2 rfl) ?_
  refine ok_aload_n (dd TX3_handTo_0 3 rfl) 0 rfl ?_
  refine ok_dup (dd TX3_handTo_0 4 rfl) (by first | rfl | exact cat_rf _) ?_
  refine ok_gI fl_RX3_27 rfl (dd TX3_handTo_0 5 rfl) (fun v1 => ?_)
  refine ok_iconst (v := (1 : Int32)) (dd TX3_handTo_0 6 rfl) (by decide) ?_
  refine ok_iload_n (dd TX3_handTo_0 7 rfl) 1 rfl ?_
  refine ok_ishl (dd TX3_handTo_0 8 rfl) ?_
  refine ok_ior (dd TX3_handTo_0 9 rfl) ?_
  refine ok_wI fl_RX3_27 (Or.inl rfl) (tyX3_ok 6 (by decide)) (by decide) rfl (dd TX3_handTo_0 10 rfl) ?_
  refine ok_aload_n (dd TX3_handTo_0 11 rfl) 0 rfl ?_
  refine ok_dup (dd TX3_handTo_0 12 rfl) (by first | rfl | exact cat_rf _) ?_
  refine ok_gI fl_RX3_30 rfl (dd TX3_handTo_0 13 rfl) (fun v2 => ?_)
  refine ok_iconst (v := (1 : Int32)) (dd TX3_handTo_0 14 rfl) (by decide) ?_
  refine ok_iadd (dd TX3_handTo_0 15 rfl) ?_
  refine ok_wI fl_RX3_30 (Or.inl rfl) (tyX3_ok 4 (by decide)) (by decide) rfl (dd TX3_handTo_0 16 rfl) ?_
  exact ok_return (dd TX3_handTo_0 17 rfl) rfl
def F_X4_init (this : Nat) : M Unit := bn (newA 115 (600 : Int32)) fun r1 => bn (wP 4 0 (some this) r1) fun _ => bn (newA 120 (60 : Int32)) fun r2 => bn (wP 4 9 (some this) r2) fun _ => rt ()
set_option maxRecDepth 100000 in
theorem C_X4_init (Γ : Gam) (this : Nat) : Ct Γ mX4_init 1 vV [va_rf (some this)] (F_X4_init this) := by
  refine ct_in (lv := [(0, va_rf (some this))]) (by decide) (by first | rfl | (simp only [lv_args, cat_rf]; rfl)) (by first | exact Nat.le_of_ble_eq_true rfl | (rw [lg_len]; simp only [List.map_cons, List.map_nil, cat_rf]; exact Nat.le_of_ble_eq_true rfl)) ?_
  unfold F_X4_init
  refine ok_aload_n (dd TX4_init_0 0 rfl) 0 rfl ?_
  refine ok_objInit ml_RX4_3 w_oi w_oc ⟨_, rfl⟩ (by decide) (Nat.le_of_ble_eq_true rfl) (dd TX4_init_0 1 rfl) ?_
  refine ok_aload_n (dd TX4_init_0 2 rfl) 0 rfl ?_
  refine ok_sipush (v := (600 : Int32)) (dd TX4_init_0 3 rfl) (by decide) ?_
  refine ok_newAC (kd := 115) (by decide) rfl ac_char (dd TX4_init_0 4 rfl) (fun r1 => ?_)
  refine ok_wP fl_RX4_11 (Or.inr ⟨rfl, rfl, rfl⟩) (tyX4_ok 0 (by decide)) rf_arr (by decide) rfl (dd TX4_init_0 5 rfl) ?_
  refine ok_aload_n (dd TX4_init_0 6 rfl) 0 rfl ?_
  refine ok_bipush (v := (60 : Int32)) (dd TX4_init_0 7 rfl) (by decide) ?_
  refine ok_newAI (kd := 120) (by decide) rfl ac_int (dd TX4_init_0 8 rfl) (fun r2 => ?_)
  refine ok_wP fl_RX4_15 (Or.inr ⟨rfl, rfl, rfl⟩) (tyX4_ok 9 (by decide)) rf_arr (by decide) rfl (dd TX4_init_0 9 rfl) ?_
  exact ok_return (dd TX4_init_0 10 rfl) rfl
def F_X4_hasRoomForFive (this : Nat) : M Int32 := bn (gI 4 1 (some this)) fun v1 => if (600 : Int32) < (v1 + (20 : Int32)) then rz (0 : Int32) else rz (1 : Int32)
set_option maxRecDepth 100000 in
theorem C_X4_hasRoomForFive (Γ : Gam) (this : Nat) : Ct Γ mX4_hasRoomForFive 0 vI [va_rf (some this)] (F_X4_hasRoomForFive this) := by
  refine ct_in (lv := [(0, va_rf (some this))]) (by decide) (by first | rfl | (simp only [lv_args, cat_rf]; rfl)) (by first | exact Nat.le_of_ble_eq_true rfl | (rw [lg_len]; simp only [List.map_cons, List.map_nil, cat_rf]; exact Nat.le_of_ble_eq_true rfl)) ?_
  unfold F_X4_hasRoomForFive
  refine ok_aload_n (dd TX4_hasRoomForFive_0 0 rfl) 0 rfl ?_
  refine ok_gI fl_RX4_19 rfl (dd TX4_hasRoomForFive_0 1 rfl) (fun v1 => ?_)
  refine ok_bipush (v := (20 : Int32)) (dd TX4_hasRoomForFive_0 2 rfl) (by decide) ?_
  refine ok_iadd (dd TX4_hasRoomForFive_0 3 rfl) ?_
  refine ok_sipush (v := (600 : Int32)) (dd TX4_hasRoomForFive_0 4 rfl) (by decide) ?_
  refine ok_icmp_gt (tgt := 17) (dd TX4_hasRoomForFive_0 5 rfl) (by decide) ?_ ?_
  · refine ok_iconst (v := (0 : Int32)) (dd TX4_hasRoomForFive_0 8 rfl) (by decide) ?_
    exact ok_zreturn (dd TX4_hasRoomForFive_0 9 rfl) rfl
  · refine ok_iconst (v := (1 : Int32)) (dd TX4_hasRoomForFive_0 6 rfl) (by decide) ?_
    refine ok_goto (tgt := 18) (dd TX4_hasRoomForFive_0 7 rfl) (by decide) ?_
    exact ok_zreturn (dd TX4_hasRoomForFive_0 9 rfl) rfl
def F_X4_append_L3 : Nat → Nat → Int32 → Int32 → M Unit
  | 0 => fun _ _ _ => fl
  | n + 1 => fun this x1 x2 => if x2 < 0 then rt () else bn (gI 4 1 (some this)) fun v1 => if (600 : Int32) ≤ v1 then rt () else bn (gP 4 0 (some this)) fun v2 => bn (gI 4 1 (some this)) fun v3 => bn (stC 115 v2 v3 ((((x1 >>> (x2 &&& 31)) &&& (255 : Int32)).toUInt32 % 65536).toInt32)) fun _ => bn (gI 4 1 (some this)) fun v4 => bn (wI 4 1 (some this) (v4 + (1 : Int32))) fun _ => F_X4_append_L3 n this x1 (x2 + (-8 : Int32))
set_option maxRecDepth 100000 in
theorem O_X4_append_L3 (Γ : Gam) (n : Nat) : ∀ (this : Nat) (x1 : Int32) (x2 : Int32), Ok Γ mX4_append 0 (qo Γ vV) 3 [(0, va_rf (some this)), (1, .int x1), (2, .int x2)] [] (F_X4_append_L3 n this x1 x2) := by
  induction n with
  | zero => intro this x1 x2; exact ok_fl
  | succ n ih =>
    intro this x1 x2
    rw [F_X4_append_L3]
    refine ok_iload_n (dd TX4_append_0 2 rfl) 2 rfl ?_
    refine ok_if_lt (tgt := 50) (dd TX4_append_0 3 rfl) (by decide) ?_ ?_
    · exact ok_return (dd TX4_append_0 27 rfl) rfl
    · refine ok_aload_n (dd TX4_append_0 4 rfl) 0 rfl ?_
      refine ok_gI fl_RX4_19 rfl (dd TX4_append_0 5 rfl) (fun v1 => ?_)
      refine ok_sipush (v := (600 : Int32)) (dd TX4_append_0 6 rfl) (by decide) ?_
      refine ok_icmp_ge (tgt := 50) (dd TX4_append_0 7 rfl) (by decide) ?_ ?_
      · exact ok_return (dd TX4_append_0 27 rfl) rfl
      · refine ok_aload_n (dd TX4_append_0 8 rfl) 0 rfl ?_
        refine ok_gP fl_RX4_11 rfl (dd TX4_append_0 9 rfl) (fun v2 => ?_)
        refine ok_aload_n (dd TX4_append_0 10 rfl) 0 rfl ?_
        refine ok_gI fl_RX4_19 rfl (dd TX4_append_0 11 rfl) (fun v3 => ?_)
        refine ok_iload_n (dd TX4_append_0 12 rfl) 1 rfl ?_
        refine ok_iload_n (dd TX4_append_0 13 rfl) 2 rfl ?_
        refine ok_ishr (dd TX4_append_0 14 rfl) ?_
        refine ok_sipush (v := (255 : Int32)) (dd TX4_append_0 15 rfl) (by decide) ?_
        refine ok_iand (dd TX4_append_0 16 rfl) ?_
        refine ok_i2c (dd TX4_append_0 17 rfl) ?_
        refine ok_stC (kd := 115) (by decide) rfl (dd TX4_append_0 18 rfl) ?_
        refine ok_aload_n (dd TX4_append_0 19 rfl) 0 rfl ?_
        refine ok_dup (dd TX4_append_0 20 rfl) (by first | rfl | exact cat_rf _) ?_
        refine ok_gI fl_RX4_19 rfl (dd TX4_append_0 21 rfl) (fun v4 => ?_)
        refine ok_iconst (v := (1 : Int32)) (dd TX4_append_0 22 rfl) (by decide) ?_
        refine ok_iadd (dd TX4_append_0 23 rfl) ?_
        refine ok_wI fl_RX4_19 (Or.inl rfl) (tyX4_ok 1 (by decide)) (by decide) rfl (dd TX4_append_0 24 rfl) ?_
        refine ok_iinc (lv' := [(2, .int (x2 + (-8 : Int32))), (0, va_rf (some this)), (1, .int x1)]) (dd TX4_append_0 25 rfl) 2 rfl (congrArg (fun q : Int32 => x2 + q) (show Int32.ofInt (-8) = (-8 : Int32) from by decide)) (by decide) (by first | rfl | (simp only [List.filter, cat_rf]; rfl)) ?_
        refine ok_goto (tgt := 3) (dd TX4_append_0 26 rfl) (by decide) ?_
        refine ok_sub [1, 2, 0] rfl ?_
        exact ih this x1 (x2 + (-8 : Int32))
def F_X4_append (this : Nat) (p0 : Int32) : M Unit := F_X4_append_L3 FU this p0 (24 : Int32)
set_option maxRecDepth 100000 in
theorem C_X4_append (Γ : Gam) (this : Nat) (p0 : Int32) : Ct Γ mX4_append 0 vV [va_rf (some this), .int p0] (F_X4_append this p0) := by
  refine ct_in (lv := [(0, va_rf (some this)), (1, .int p0)]) (by decide) (by first | rfl | (simp only [lv_args, cat_rf]; rfl)) (by first | exact Nat.le_of_ble_eq_true rfl | (rw [lg_len]; simp only [List.map_cons, List.map_nil, cat_rf]; exact Nat.le_of_ble_eq_true rfl)) ?_
  unfold F_X4_append
  refine ok_bipush (v := (24 : Int32)) (dd TX4_append_0 0 rfl) (by decide) ?_
  refine ok_istore_n (lv' := [(2, .int (24 : Int32)), (0, va_rf (some this)), (1, .int p0)]) (dd TX4_append_0 1 rfl) (by decide) (by first | rfl | (simp only [List.filter, cat_rf]; rfl)) ?_
  refine ok_sub [1, 2, 0] rfl ?_
  exact O_X4_append_L3 Γ FU this p0 (24 : Int32)
def F_X4_emit (this : Nat) (p0 : Int32) : M Unit := bn (gI 4 10 (some this)) fun v1 => bn (gP 4 9 (some this)) fun v2 => bn (len v2) fun v3 => if v3 ≤ v1 then rt () else bn (gP 4 9 (some this)) fun v4 => bn (gI 4 10 (some this)) fun v5 => bn (stI 120 v4 v5 p0) fun _ => bn (gI 4 10 (some this)) fun v6 => bn (wI 4 10 (some this) (v6 + (1 : Int32))) fun _ => rt ()
set_option maxRecDepth 100000 in
theorem C_X4_emit (Γ : Gam) (this : Nat) (p0 : Int32) : Ct Γ mX4_emit 0 vV [va_rf (some this), .int p0] (F_X4_emit this p0) := by
  refine ct_in (lv := [(0, va_rf (some this)), (1, .int p0)]) (by decide) (by first | rfl | (simp only [lv_args, cat_rf]; rfl)) (by first | exact Nat.le_of_ble_eq_true rfl | (rw [lg_len]; simp only [List.map_cons, List.map_nil, cat_rf]; exact Nat.le_of_ble_eq_true rfl)) ?_
  unfold F_X4_emit
  refine ok_aload_n (dd TX4_emit_0 0 rfl) 0 rfl ?_
  refine ok_gI fl_RX4_66 rfl (dd TX4_emit_0 1 rfl) (fun v1 => ?_)
  refine ok_aload_n (dd TX4_emit_0 2 rfl) 0 rfl ?_
  refine ok_gP fl_RX4_15 rfl (dd TX4_emit_0 3 rfl) (fun v2 => ?_)
  refine ok_len (dd TX4_emit_0 4 rfl) (fun v3 => ?_)
  refine ok_icmp_ge (tgt := 32) (dd TX4_emit_0 5 rfl) (by decide) ?_ ?_
  · exact ok_return (dd TX4_emit_0 18 rfl) rfl
  · refine ok_aload_n (dd TX4_emit_0 6 rfl) 0 rfl ?_
    refine ok_gP fl_RX4_15 rfl (dd TX4_emit_0 7 rfl) (fun v4 => ?_)
    refine ok_aload_n (dd TX4_emit_0 8 rfl) 0 rfl ?_
    refine ok_gI fl_RX4_66 rfl (dd TX4_emit_0 9 rfl) (fun v5 => ?_)
    refine ok_iload_n (dd TX4_emit_0 10 rfl) 1 rfl ?_
    refine ok_stI (kd := 120) (by decide) rfl (dd TX4_emit_0 11 rfl) ?_
    refine ok_aload_n (dd TX4_emit_0 12 rfl) 0 rfl ?_
    refine ok_dup (dd TX4_emit_0 13 rfl) (by first | rfl | exact cat_rf _) ?_
    refine ok_gI fl_RX4_66 rfl (dd TX4_emit_0 14 rfl) (fun v6 => ?_)
    refine ok_iconst (v := (1 : Int32)) (dd TX4_emit_0 15 rfl) (by decide) ?_
    refine ok_iadd (dd TX4_emit_0 16 rfl) ?_
    refine ok_wI fl_RX4_66 (Or.inl rfl) (tyX4_ok 10 (by decide)) (by decide) rfl (dd TX4_emit_0 17 rfl) ?_
    exact ok_return (dd TX4_emit_0 18 rfl) rfl
def F_X4_refuseIf (this : Nat) (p0 : Int32) (p1 : Int32) : M Unit := if p0 = 0 then rt () else bn (gI 4 6 (some this)) fun v1 => if v1 = (18 : Int32) then rt () else bn (wI 4 2 (some this) p1) fun _ => bn (gI 4 5 (some this)) fun v2 => bn (wI 4 3 (some this) v2) fun _ => bn (wI 4 6 (some this) (18 : Int32)) fun _ => rt ()
set_option maxRecDepth 100000 in
theorem C_X4_refuseIf (Γ : Gam) (this : Nat) (p0 : Int32) (p1 : Int32) : Ct Γ mX4_refuseIf 0 vV [va_rf (some this), .int p0, .int p1] (F_X4_refuseIf this p0 p1) := by
  refine ct_in (lv := [(0, va_rf (some this)), (1, .int p0), (2, .int p1)]) (by decide) (by first | rfl | (simp only [lv_args, cat_rf]; rfl)) (by first | exact Nat.le_of_ble_eq_true rfl | (rw [lg_len]; simp only [List.map_cons, List.map_nil, cat_rf]; exact Nat.le_of_ble_eq_true rfl)) ?_
  unfold F_X4_refuseIf
  refine ok_iload_n (dd TX4_refuseIf_0 0 rfl) 1 rfl ?_
  refine ok_if_eq (tgt := 32) (dd TX4_refuseIf_0 1 rfl) (by decide) ?_ ?_
  · exact ok_return (dd TX4_refuseIf_0 16 rfl) rfl
  · refine ok_aload_n (dd TX4_refuseIf_0 2 rfl) 0 rfl ?_
    refine ok_gI fl_RX4_38 rfl (dd TX4_refuseIf_0 3 rfl) (fun v1 => ?_)
    refine ok_bipush (v := (18 : Int32)) (dd TX4_refuseIf_0 4 rfl) (by decide) ?_
    refine ok_icmp_eq (tgt := 32) (dd TX4_refuseIf_0 5 rfl) (by decide) ?_ ?_
    · exact ok_return (dd TX4_refuseIf_0 16 rfl) rfl
    · refine ok_aload_n (dd TX4_refuseIf_0 6 rfl) 0 rfl ?_
      refine ok_iload_n (dd TX4_refuseIf_0 7 rfl) 2 rfl ?_
      refine ok_wI fl_RX4_29 (Or.inl rfl) (tyX4_ok 2 (by decide)) (by decide) rfl (dd TX4_refuseIf_0 8 rfl) ?_
      refine ok_aload_n (dd TX4_refuseIf_0 9 rfl) 0 rfl ?_
      refine ok_aload_n (dd TX4_refuseIf_0 10 rfl) 0 rfl ?_
      refine ok_gI fl_RX4_111 rfl (dd TX4_refuseIf_0 11 rfl) (fun v2 => ?_)
      refine ok_wI fl_RX4_32 (Or.inl rfl) (tyX4_ok 3 (by decide)) (by decide) rfl (dd TX4_refuseIf_0 12 rfl) ?_
      refine ok_aload_n (dd TX4_refuseIf_0 13 rfl) 0 rfl ?_
      refine ok_bipush (v := (18 : Int32)) (dd TX4_refuseIf_0 14 rfl) (by decide) ?_
      refine ok_wI fl_RX4_38 (Or.inl rfl) (tyX4_ok 6 (by decide)) (by decide) rfl (dd TX4_refuseIf_0 15 rfl) ?_
      exact ok_return (dd TX4_refuseIf_0 16 rfl) rfl
def F_X4_wordFrom_L84 (k8 : Nat → Int32 → Int32 → Int32 → Int32 → Int32 → M Int32) (this : Nat) (x1 : Int32) (x2 : Int32) (x3 : Int32) (x4 : Int32) (x5 : Int32) : M Int32 := k8 this x1 x2 x3 x4 (x5 + (1 : Int32))
set_option maxRecDepth 100000 in
theorem O_X4_wordFrom_L84 (Γ : Gam) (k8 : Nat → Int32 → Int32 → Int32 → Int32 → Int32 → M Int32) (hk8 : ∀ (z0 : Nat) (z1 : Int32) (z2 : Int32) (z3 : Int32) (z4 : Int32) (z5 : Int32), Ok Γ mX4_wordFrom 4 (qo Γ vI) 8 [(0, va_rf (some z0)), (1, .int z1), (2, .int z2), (3, .int z3), (4, .int z4), (5, .int z5)] [] (k8 z0 z1 z2 z3 z4 z5)) (this : Nat) (x1 : Int32) (x2 : Int32) (x3 : Int32) (x4 : Int32) (x5 : Int32) : Ok Γ mX4_wordFrom 4 (qo Γ vI) 84 [(0, va_rf (some this)), (1, .int x1), (2, .int x2), (3, .int x3), (4, .int x4), (5, .int x5)] [] (F_X4_wordFrom_L84 k8 this x1 x2 x3 x4 x5) := by
  unfold F_X4_wordFrom_L84
  refine ok_iinc (lv' := [(5, .int (x5 + (1 : Int32))), (0, va_rf (some this)), (1, .int x1), (2, .int x2), (3, .int x3), (4, .int x4)]) (dd TX4_wordFrom_1 2 rfl) 5 rfl (congrArg (fun q : Int32 => x5 + q) (show Int32.ofInt (1) = (1 : Int32) from by decide)) (by decide) (by first | rfl | (simp only [List.filter, cat_rf]; rfl)) ?_
  refine ok_goto (tgt := 8) (dd TX4_wordFrom_1 3 rfl) (by decide) ?_
  refine ok_sub [1, 2, 3, 4, 5, 0] rfl ?_
  exact hk8 this x1 x2 x3 x4 (x5 + (1 : Int32))
def F_X4_wordFrom_L81 (k8 : Nat → Int32 → Int32 → Int32 → Int32 → Int32 → M Int32) (this : Nat) (x1 : Int32) (x2 : Int32) (x3 : Int32) (x5 : Int32) : M Int32 := F_X4_wordFrom_L84 k8 this x1 x2 x3 (-1 : Int32) x5
set_option maxRecDepth 100000 in
theorem O_X4_wordFrom_L81 (Γ : Gam) (k8 : Nat → Int32 → Int32 → Int32 → Int32 → Int32 → M Int32) (hk8 : ∀ (z0 : Nat) (z1 : Int32) (z2 : Int32) (z3 : Int32) (z4 : Int32) (z5 : Int32), Ok Γ mX4_wordFrom 4 (qo Γ vI) 8 [(0, va_rf (some z0)), (1, .int z1), (2, .int z2), (3, .int z3), (4, .int z4), (5, .int z5)] [] (k8 z0 z1 z2 z3 z4 z5)) (this : Nat) (x1 : Int32) (x2 : Int32) (x3 : Int32) (x5 : Int32) : Ok Γ mX4_wordFrom 4 (qo Γ vI) 81 [(0, va_rf (some this)), (1, .int x1), (2, .int x2), (3, .int x3), (5, .int x5)] [] (F_X4_wordFrom_L81 k8 this x1 x2 x3 x5) := by
  unfold F_X4_wordFrom_L81
  refine ok_iconst (v := (-1 : Int32)) (dd TX4_wordFrom_1 0 rfl) (by decide) ?_
  refine ok_istore (lv' := [(4, .int (-1 : Int32)), (0, va_rf (some this)), (1, .int x1), (2, .int x2), (3, .int x3), (5, .int x5)]) (dd TX4_wordFrom_1 1 rfl) (by decide) (by first | rfl | (simp only [List.filter, cat_rf]; rfl)) ?_
  refine ok_sub [1, 2, 3, 4, 0, 5] rfl ?_
  exact O_X4_wordFrom_L84 Γ k8 hk8 this x1 x2 x3 (-1 : Int32) x5
def F_X4_wordFrom_L8 : Nat → Nat → Int32 → Int32 → Int32 → Int32 → Int32 → M Int32
  | 0 => fun _ _ _ _ _ _ => fl
  | n + 1 => fun this x1 x2 x3 x4 x5 => bn (cK 1) fun r1 => bn (kRc r1) fun b2 => bn (F_J0_length_8abf5 b2) fun v3 => if v3 ≤ x5 then rt (-1 : Int32) else bn (cK 1) fun r4 => bn (kRc r4) fun b5 => bn (F_J0_charAt_5068e b5 x5) fun v6 => if ¬ v6 = (32 : Int32) then if x4 < x1 then F_X4_wordFrom_L81 (F_X4_wordFrom_L8 n) this x1 x2 x3 x5 else if x2 ≤ x4 then F_X4_wordFrom_L81 (F_X4_wordFrom_L8 n) this x1 x2 x3 x5 else bn (gP 4 0 (some this)) fun v7 => bn (lI 115 v7 x4) fun v8 => if ¬ v8 = v6 then F_X4_wordFrom_L81 (F_X4_wordFrom_L8 n) this x1 x2 x3 x5 else F_X4_wordFrom_L84 (F_X4_wordFrom_L8 n) this x1 x2 x3 (x4 + (1 : Int32)) x5 else if ¬ x4 = x2 then F_X4_wordFrom_L84 (F_X4_wordFrom_L8 n) this x1 x2 (x3 + (1 : Int32)) x1 x5 else rt x3
set_option maxRecDepth 100000 in
theorem O_X4_wordFrom_L8 (Γ : Gam) (n : Nat) : ∀ (this : Nat) (x1 : Int32) (x2 : Int32) (x3 : Int32) (x4 : Int32) (x5 : Int32), Ok Γ mX4_wordFrom 4 (qo Γ vI) 8 [(0, va_rf (some this)), (1, .int x1), (2, .int x2), (3, .int x3), (4, .int x4), (5, .int x5)] [] (F_X4_wordFrom_L8 n this x1 x2 x3 x4 x5) := by
  induction n with
  | zero => intro this x1 x2 x3 x4 x5; exact ok_fl
  | succ n ih =>
    intro this x1 x2 x3 x4 x5
    rw [F_X4_wordFrom_L8]
    refine ok_iload (dd TX4_wordFrom_0 6 rfl) 5 rfl ?_
    refine ok_ldcS0 rfl (dd TX4_wordFrom_0 7 rfl) (fun r1 => ?_)
    refine ok_callK [] [.int x5] (fun b2 => C_J0_length_8abf5 Γ b2) cy_J0_length_8abf5 ml_RX4_145 im_J0_length_8abf5 se_J0_length_8abf5 (by decide) (Nat.le_of_ble_eq_true rfl) rfl (dd TX4_wordFrom_0 8 rfl) (fun v3 => ?_)
    refine ok_icmp_ge (tgt := 90) (dd TX4_wordFrom_0 9 rfl) (by decide) ?_ ?_
    · refine ok_iconst (v := (-1 : Int32)) (dd TX4_wordFrom_1 4 rfl) (by decide) ?_
      exact ok_ireturn (dd TX4_wordFrom_1 5 rfl) rfl
    · refine ok_ldcS0 rfl (dd TX4_wordFrom_0 10 rfl) (fun r4 => ?_)
      refine ok_iload (dd TX4_wordFrom_0 11 rfl) 5 rfl ?_
      refine ok_callK [.int x5] [] (fun b5 => C_J0_charAt_5068e Γ b5 x5) cy_J0_charAt_5068e ml_RX4_147 im_J0_charAt_5068e se_J0_charAt_5068e (by decide) (Nat.le_of_ble_eq_true rfl) rfl (dd TX4_wordFrom_0 12 rfl) (fun v6 => ?_)
      refine ok_istore (lv' := [(6, .int v6), (0, va_rf (some this)), (1, .int x1), (2, .int x2), (3, .int x3), (4, .int x4), (5, .int x5)]) (dd TX4_wordFrom_0 13 rfl) (by decide) (by first | rfl | (simp only [List.filter, cat_rf]; rfl)) ?_
      refine ok_iload (dd TX4_wordFrom_0 14 rfl) 0 rfl ?_
      refine ok_bipush (v := (32 : Int32)) (dd TX4_wordFrom_0 15 rfl) (by decide) ?_
      refine ok_icmp_ne (tgt := 51) (dd TX4_wordFrom_0 16 rfl) (by decide) ?_ ?_
      · refine ok_iload (dd TX4_wordFrom_0 26 rfl) 5 rfl ?_
        refine ok_iload_n (dd TX4_wordFrom_0 27 rfl) 2 rfl ?_
        refine ok_icmp_lt (tgt := 81) (dd TX4_wordFrom_0 28 rfl) (by decide) ?_ ?_
        · refine ok_sub [1, 2, 3, 4, 6] rfl ?_
          exact O_X4_wordFrom_L81 Γ (F_X4_wordFrom_L8 n) ih this x1 x2 x3 x5
        · refine ok_iload (dd TX4_wordFrom_0 29 rfl) 5 rfl ?_
          refine ok_iload_n (dd TX4_wordFrom_0 30 rfl) 3 rfl ?_
          refine ok_icmp_ge (tgt := 81) (dd TX4_wordFrom_0 31 rfl) (by decide) ?_ ?_
          · refine ok_sub [1, 2, 3, 4, 6] rfl ?_
            exact O_X4_wordFrom_L81 Γ (F_X4_wordFrom_L8 n) ih this x1 x2 x3 x5
          · refine ok_aload_n (dd TX4_wordFrom_0 32 rfl) 1 rfl ?_
            refine ok_gP fl_RX4_11 rfl (dd TX4_wordFrom_0 33 rfl) (fun v7 => ?_)
            refine ok_iload (dd TX4_wordFrom_0 34 rfl) 5 rfl ?_
            refine ok_lC (kd := 115) (by decide) rfl (dd TX4_wordFrom_0 35 rfl) (fun v8 => ?_)
            refine ok_iload (dd TX4_wordFrom_0 36 rfl) 0 rfl ?_
            refine ok_icmp_ne (tgt := 81) (dd TX4_wordFrom_0 37 rfl) (by decide) ?_ ?_
            · refine ok_sub [1, 2, 3, 4, 6] rfl ?_
              exact O_X4_wordFrom_L81 Γ (F_X4_wordFrom_L8 n) ih this x1 x2 x3 x5
            · refine ok_iinc (lv' := [(4, .int (x4 + (1 : Int32))), (6, .int v6), (0, va_rf (some this)), (1, .int x1), (2, .int x2), (3, .int x3), (5, .int x5)]) (dd TX4_wordFrom_0 38 rfl) 5 rfl (congrArg (fun q : Int32 => x4 + q) (show Int32.ofInt (1) = (1 : Int32) from by decide)) (by decide) (by first | rfl | (simp only [List.filter, cat_rf]; rfl)) ?_
              refine ok_goto (tgt := 84) (dd TX4_wordFrom_0 39 rfl) (by decide) ?_
              refine ok_sub [2, 3, 4, 5, 0, 6] rfl ?_
              exact O_X4_wordFrom_L84 Γ (F_X4_wordFrom_L8 n) ih this x1 x2 x3 (x4 + (1 : Int32)) x5
      · refine ok_iload (dd TX4_wordFrom_0 17 rfl) 5 rfl ?_
        refine ok_iload_n (dd TX4_wordFrom_0 18 rfl) 3 rfl ?_
        refine ok_icmp_ne (tgt := 42) (dd TX4_wordFrom_0 19 rfl) (by decide) ?_ ?_
        · refine ok_iinc (lv' := [(3, .int (x3 + (1 : Int32))), (6, .int v6), (0, va_rf (some this)), (1, .int x1), (2, .int x2), (4, .int x4), (5, .int x5)]) (dd TX4_wordFrom_0 22 rfl) 4 rfl (congrArg (fun q : Int32 => x3 + q) (show Int32.ofInt (1) = (1 : Int32) from by decide)) (by decide) (by first | rfl | (simp only [List.filter, cat_rf]; rfl)) ?_
          refine ok_iload_n (dd TX4_wordFrom_0 23 rfl) 3 rfl ?_
          refine ok_istore (lv' := [(4, .int x1), (3, .int (x3 + (1 : Int32))), (6, .int v6), (0, va_rf (some this)), (1, .int x1), (2, .int x2), (5, .int x5)]) (dd TX4_wordFrom_0 24 rfl) (by decide) (by first | rfl | (simp only [List.filter, cat_rf]; rfl)) ?_
          refine ok_goto (tgt := 84) (dd TX4_wordFrom_0 25 rfl) (by decide) ?_
          refine ok_sub [3, 4, 5, 1, 0, 6] rfl ?_
          exact O_X4_wordFrom_L84 Γ (F_X4_wordFrom_L8 n) ih this x1 x2 (x3 + (1 : Int32)) x1 x5
        · refine ok_iload_n (dd TX4_wordFrom_0 20 rfl) 4 rfl ?_
          exact ok_ireturn (dd TX4_wordFrom_0 21 rfl) rfl
def F_X4_wordFrom (this : Nat) (p0 : Int32) (p1 : Int32) : M Int32 := F_X4_wordFrom_L8 FU this p0 p1 (0 : Int32) p0 (0 : Int32)
set_option maxRecDepth 100000 in
theorem C_X4_wordFrom (Γ : Gam) (this : Nat) (p0 : Int32) (p1 : Int32) : Ct Γ mX4_wordFrom 4 vI [va_rf (some this), .int p0, .int p1] (F_X4_wordFrom this p0 p1) := by
  refine ct_in (lv := [(0, va_rf (some this)), (1, .int p0), (2, .int p1)]) (by decide) (by first | rfl | (simp only [lv_args, cat_rf]; rfl)) (by first | exact Nat.le_of_ble_eq_true rfl | (rw [lg_len]; simp only [List.map_cons, List.map_nil, cat_rf]; exact Nat.le_of_ble_eq_true rfl)) ?_
  unfold F_X4_wordFrom
  refine ok_iconst (v := (0 : Int32)) (dd TX4_wordFrom_0 0 rfl) (by decide) ?_
  refine ok_istore_n (lv' := [(3, .int (0 : Int32)), (0, va_rf (some this)), (1, .int p0), (2, .int p1)]) (dd TX4_wordFrom_0 1 rfl) (by decide) (by first | rfl | (simp only [List.filter, cat_rf]; rfl)) ?_
  refine ok_iload_n (dd TX4_wordFrom_0 2 rfl) 2 rfl ?_
  refine ok_istore (lv' := [(4, .int p0), (3, .int (0 : Int32)), (0, va_rf (some this)), (1, .int p0), (2, .int p1)]) (dd TX4_wordFrom_0 3 rfl) (by decide) (by first | rfl | (simp only [List.filter, cat_rf]; rfl)) ?_
  refine ok_iconst (v := (0 : Int32)) (dd TX4_wordFrom_0 4 rfl) (by decide) ?_
  refine ok_istore (lv' := [(5, .int (0 : Int32)), (4, .int p0), (3, .int (0 : Int32)), (0, va_rf (some this)), (1, .int p0), (2, .int p1)]) (dd TX4_wordFrom_0 5 rfl) (by decide) (by first | rfl | (simp only [List.filter, cat_rf]; rfl)) ?_
  refine ok_sub [3, 4, 5, 2, 1, 0] rfl ?_
  exact O_X4_wordFrom_L8 Γ FU this p0 p1 (0 : Int32) p0 (0 : Int32)
def F_X4_isLetter (p0 : Int32) : M Int32 := if p0 < (97 : Int32) then rz (0 : Int32) else if (122 : Int32) < p0 then rz (0 : Int32) else rz (1 : Int32)
set_option maxRecDepth 100000 in
theorem C_X4_isLetter (Γ : Gam) (p0 : Int32) : Ct Γ mX4_isLetter 0 vI [.int p0] (F_X4_isLetter p0) := by
  refine ct_in (lv := [(0, .int p0)]) (by decide) (by first | rfl | (simp only [lv_args, cat_rf]; rfl)) (by first | exact Nat.le_of_ble_eq_true rfl | (rw [lg_len]; simp only [List.map_cons, List.map_nil, cat_rf]; exact Nat.le_of_ble_eq_true rfl)) ?_
  unfold F_X4_isLetter
  refine ok_iload_n (dd TX4_isLetter_0 0 rfl) 0 rfl ?_
  refine ok_bipush (v := (97 : Int32)) (dd TX4_isLetter_0 1 rfl) (by decide) ?_
  refine ok_icmp_lt (tgt := 16) (dd TX4_isLetter_0 2 rfl) (by decide) ?_ ?_
  · refine ok_iconst (v := (0 : Int32)) (dd TX4_isLetter_0 8 rfl) (by decide) ?_
    exact ok_zreturn (dd TX4_isLetter_0 9 rfl) rfl
  · refine ok_iload_n (dd TX4_isLetter_0 3 rfl) 0 rfl ?_
    refine ok_bipush (v := (122 : Int32)) (dd TX4_isLetter_0 4 rfl) (by decide) ?_
    refine ok_icmp_gt (tgt := 16) (dd TX4_isLetter_0 5 rfl) (by decide) ?_ ?_
    · refine ok_iconst (v := (0 : Int32)) (dd TX4_isLetter_0 8 rfl) (by decide) ?_
      exact ok_zreturn (dd TX4_isLetter_0 9 rfl) rfl
    · refine ok_iconst (v := (1 : Int32)) (dd TX4_isLetter_0 6 rfl) (by decide) ?_
      refine ok_goto (tgt := 17) (dd TX4_isLetter_0 7 rfl) (by decide) ?_
      exact ok_zreturn (dd TX4_isLetter_0 9 rfl) rfl
def F_X4_isDigit (p0 : Int32) : M Int32 := if p0 < (48 : Int32) then rz (0 : Int32) else if (57 : Int32) < p0 then rz (0 : Int32) else rz (1 : Int32)
set_option maxRecDepth 100000 in
theorem C_X4_isDigit (Γ : Gam) (p0 : Int32) : Ct Γ mX4_isDigit 0 vI [.int p0] (F_X4_isDigit p0) := by
  refine ct_in (lv := [(0, .int p0)]) (by decide) (by first | rfl | (simp only [lv_args, cat_rf]; rfl)) (by first | exact Nat.le_of_ble_eq_true rfl | (rw [lg_len]; simp only [List.map_cons, List.map_nil, cat_rf]; exact Nat.le_of_ble_eq_true rfl)) ?_
  unfold F_X4_isDigit
  refine ok_iload_n (dd TX4_isDigit_0 0 rfl) 0 rfl ?_
  refine ok_bipush (v := (48 : Int32)) (dd TX4_isDigit_0 1 rfl) (by decide) ?_
  refine ok_icmp_lt (tgt := 16) (dd TX4_isDigit_0 2 rfl) (by decide) ?_ ?_
  · refine ok_iconst (v := (0 : Int32)) (dd TX4_isDigit_0 8 rfl) (by decide) ?_
    exact ok_zreturn (dd TX4_isDigit_0 9 rfl) rfl
  · refine ok_iload_n (dd TX4_isDigit_0 3 rfl) 0 rfl ?_
    refine ok_bipush (v := (57 : Int32)) (dd TX4_isDigit_0 4 rfl) (by decide) ?_
    refine ok_icmp_gt (tgt := 16) (dd TX4_isDigit_0 5 rfl) (by decide) ?_ ?_
    · refine ok_iconst (v := (0 : Int32)) (dd TX4_isDigit_0 8 rfl) (by decide) ?_
      exact ok_zreturn (dd TX4_isDigit_0 9 rfl) rfl
    · refine ok_iconst (v := (1 : Int32)) (dd TX4_isDigit_0 6 rfl) (by decide) ?_
      refine ok_goto (tgt := 17) (dd TX4_isDigit_0 7 rfl) (by decide) ?_
      exact ok_zreturn (dd TX4_isDigit_0 9 rfl) rfl
def F_X5_init (this : Nat) (p0 : Int32) (p1 : Int32) (p2 : Int32) : M Unit := bn (wZ 5 3 (some this) (1 : Int32)) fun _ => bn (wI 5 2 (some this) p0) fun _ => bn (wI 5 0 (some this) p1) fun _ => bn (wI 5 1 (some this) p2) fun _ => rt ()
set_option maxRecDepth 100000 in
theorem C_X5_init (Γ : Gam) (this : Nat) (p0 : Int32) (p1 : Int32) (p2 : Int32) : Ct Γ mX5_init 1 vV [va_rf (some this), .int p0, .int p1, .int p2] (F_X5_init this p0 p1 p2) := by
  refine ct_in (lv := [(0, va_rf (some this)), (1, .int p0), (2, .int p1), (3, .int p2)]) (by decide) (by first | rfl | (simp only [lv_args, cat_rf]; rfl)) (by first | exact Nat.le_of_ble_eq_true rfl | (rw [lg_len]; simp only [List.map_cons, List.map_nil, cat_rf]; exact Nat.le_of_ble_eq_true rfl)) ?_
  unfold F_X5_init
  refine ok_aload_n (dd TX5_init_0 0 rfl) 0 rfl ?_
  refine ok_objInit ml_RX5_1 w_oi w_oc ⟨_, rfl⟩ (by decide) (Nat.le_of_ble_eq_true rfl) (dd TX5_init_0 1 rfl) ?_
  refine ok_aload_n (dd TX5_init_0 2 rfl) 0 rfl ?_
  refine ok_iconst (v := (1 : Int32)) (dd TX5_init_0 3 rfl) (by decide) ?_
  refine ok_wZ fl_RX5_7 (Or.inl rfl) (tyX5_ok 3 (by decide)) (by decide) rfl (dd TX5_init_0 4 rfl) ?_
  refine ok_aload_n (dd TX5_init_0 5 rfl) 0 rfl ?_
  refine ok_iload_n (dd TX5_init_0 6 rfl) 1 rfl ?_
  refine ok_wI fl_RX5_13 (Or.inl rfl) (tyX5_ok 2 (by decide)) (by decide) rfl (dd TX5_init_0 7 rfl) ?_
  refine ok_aload_n (dd TX5_init_0 8 rfl) 0 rfl ?_
  refine ok_iload_n (dd TX5_init_0 9 rfl) 2 rfl ?_
  refine ok_wI fl_RX5_17 (Or.inr ⟨rfl, rfl, rfl⟩) (tyX5_ok 0 (by decide)) (by decide) rfl (dd TX5_init_0 10 rfl) ?_
  refine ok_aload_n (dd TX5_init_0 11 rfl) 0 rfl ?_
  refine ok_iload_n (dd TX5_init_0 12 rfl) 3 rfl ?_
  refine ok_wI fl_RX5_20 (Or.inr ⟨rfl, rfl, rfl⟩) (tyX5_ok 1 (by decide)) (by decide) rfl (dd TX5_init_0 13 rfl) ?_
  exact ok_return (dd TX5_init_0 14 rfl) rfl
def F_X6_init (this : Nat) (p0 : Int32) (p1 : Int32) (p2 : Option Nat) : M Unit := bn (wI 6 0 (some this) p0) fun _ => bn (wI 6 1 (some this) p1) fun _ => bn (wP 6 2 (some this) p2) fun _ => rt ()
set_option maxRecDepth 100000 in
theorem C_X6_init (Γ : Gam) (this : Nat) (p0 : Int32) (p1 : Int32) (p2 : Option Nat) : Ct Γ mX6_init 1 vV [va_rf (some this), .int p0, .int p1, va_rf p2] (F_X6_init this p0 p1 p2) := by
  refine ct_in (lv := [(0, va_rf (some this)), (1, .int p0), (2, .int p1), (3, va_rf p2)]) (by decide) (by first | rfl | (simp only [lv_args, cat_rf]; rfl)) (by first | exact Nat.le_of_ble_eq_true rfl | (rw [lg_len]; simp only [List.map_cons, List.map_nil, cat_rf]; exact Nat.le_of_ble_eq_true rfl)) ?_
  unfold F_X6_init
  refine ok_aload_n (dd TX6_init_0 0 rfl) 0 rfl ?_
  refine ok_objInit ml_RX6_1 w_oi w_oc ⟨_, rfl⟩ (by decide) (Nat.le_of_ble_eq_true rfl) (dd TX6_init_0 1 rfl) ?_
  refine ok_aload_n (dd TX6_init_0 2 rfl) 0 rfl ?_
  refine ok_iload_n (dd TX6_init_0 3 rfl) 1 rfl ?_
  refine ok_wI fl_RX6_7 (Or.inr ⟨rfl, rfl, rfl⟩) (tyX6_ok 0 (by decide)) (by decide) rfl (dd TX6_init_0 4 rfl) ?_
  refine ok_aload_n (dd TX6_init_0 5 rfl) 0 rfl ?_
  refine ok_iload_n (dd TX6_init_0 6 rfl) 2 rfl ?_
  refine ok_wI fl_RX6_13 (Or.inr ⟨rfl, rfl, rfl⟩) (tyX6_ok 1 (by decide)) (by decide) rfl (dd TX6_init_0 7 rfl) ?_
  refine ok_aload_n (dd TX6_init_0 8 rfl) 0 rfl ?_
  refine ok_aload_n (dd TX6_init_0 9 rfl) 3 rfl ?_
  refine ok_wP fl_RX6_16 (Or.inr ⟨rfl, rfl, rfl⟩) (tyX6_ok 2 (by decide)) rf_arr (by decide) rfl (dd TX6_init_0 10 rfl) ?_
  exact ok_return (dd TX6_init_0 11 rfl) rfl
def F_X7_init (this : Nat) : M Unit := bn (newO 13 3) fun r1 => bn (pRc 13 r1) fun b2 => bn (F_Jx4a65c_init_da8c8 b2) fun _ => bn (wP 7 0 (some this) r1) fun _ => bn (newA 136 (6 : Int32)) fun r3 => bn (wP 7 1 (some this) r3) fun _ => bn (newA 144 (60 : Int32)) fun r4 => bn (wP 7 2 (some this) r4) fun _ => rt ()
set_option maxRecDepth 100000 in
theorem C_X7_init (Γ : Gam) (this : Nat) : Ct Γ mX7_init 4 vV [va_rf (some this)] (F_X7_init this) := by
  refine ct_in (lv := [(0, va_rf (some this))]) (by decide) (by first | rfl | (simp only [lv_args, cat_rf]; rfl)) (by first | exact Nat.le_of_ble_eq_true rfl | (rw [lg_len]; simp only [List.map_cons, List.map_nil, cat_rf]; exact Nat.le_of_ble_eq_true rfl)) ?_
  unfold F_X7_init
  refine ok_aload_n (dd TX7_init_0 0 rfl) 0 rfl ?_
  refine ok_objInit ml_RX7_3 w_oi w_oc ⟨_, rfl⟩ (by decide) (Nat.le_of_ble_eq_true rfl) (dd TX7_init_0 1 rfl) ?_
  refine ok_aload_n (dd TX7_init_0 2 rfl) 0 rfl ?_
  refine ok_newO cf_13 tyJx4a65c tyJx4a65c_ok df_13 cl_RX7_9 ib_13 in_13 (dd TX7_init_0 3 rfl) (fun r1 => ?_)
  refine ok_dup (dd TX7_init_0 4 rfl) (by first | rfl | exact cat_rf _) ?_
  refine ok_callI (cn := 13) [] [va_rf r1, va_rf (some this)] (fun b2 => C_Jx4a65c_init_da8c8 Γ b2) cy_Jx4a65c_init_da8c8 rfl rfl ml_RX7_11 im_Jx4a65c_init_da8c8 (by decide) (Nat.le_of_ble_eq_true rfl) rfl (dd TX7_init_0 5 rfl) ?_
  refine ok_wP fl_RX7_12 (Or.inr ⟨rfl, rfl, rfl⟩) (tyX7_ok 0 (by decide)) rf_obj (by decide) rfl (dd TX7_init_0 6 rfl) ?_
  refine ok_aload_n (dd TX7_init_0 7 rfl) 0 rfl ?_
  refine ok_bipush (v := (6 : Int32)) (dd TX7_init_0 8 rfl) (by decide) ?_
  refine ok_newAI (kd := 136) (by decide) rfl ac_int (dd TX7_init_0 9 rfl) (fun r3 => ?_)
  refine ok_wP fl_RX7_18 (Or.inr ⟨rfl, rfl, rfl⟩) (tyX7_ok 1 (by decide)) rf_arr (by decide) rfl (dd TX7_init_0 10 rfl) ?_
  refine ok_aload_n (dd TX7_init_0 11 rfl) 0 rfl ?_
  refine ok_bipush (v := (60 : Int32)) (dd TX7_init_0 12 rfl) (by decide) ?_
  refine ok_newAI (kd := 144) (by decide) rfl ac_int (dd TX7_init_0 13 rfl) (fun r4 => ?_)
  refine ok_wP fl_RX7_24 (Or.inr ⟨rfl, rfl, rfl⟩) (tyX7_ok 2 (by decide)) rf_arr (by decide) rfl (dd TX7_init_0 14 rfl) ?_
  exact ok_return (dd TX7_init_0 15 rfl) rfl
def F_X7_inForce_L80 (k5 : Nat → Int32 → Int32 → Option Nat → Int32 → M (Option Nat)) (this : Nat) (x1 : Int32) (x2 : Int32) (x3 : Option Nat) (x4 : Int32) : M (Option Nat) := k5 this x1 x2 x3 (x4 + (1 : Int32))
set_option maxRecDepth 100000 in
theorem O_X7_inForce_L80 (Γ : Gam) (k5 : Nat → Int32 → Int32 → Option Nat → Int32 → M (Option Nat)) (hk5 : ∀ (z0 : Nat) (z1 : Int32) (z2 : Int32) (z3 : Option Nat) (z4 : Int32), Ok Γ mX7_inForce 3 (qo Γ vP) 5 [(0, va_rf (some z0)), (1, .int z1), (2, .int z2), (3, va_rf z3), (4, .int z4)] [] (k5 z0 z1 z2 z3 z4)) (this : Nat) (x1 : Int32) (x2 : Int32) (x3 : Option Nat) (x4 : Int32) : Ok Γ mX7_inForce 3 (qo Γ vP) 80 [(0, va_rf (some this)), (1, .int x1), (2, .int x2), (3, va_rf x3), (4, .int x4)] [] (F_X7_inForce_L80 k5 this x1 x2 x3 x4) := by
  unfold F_X7_inForce_L80
  refine ok_iinc (lv' := [(4, .int (x4 + (1 : Int32))), (0, va_rf (some this)), (1, .int x1), (2, .int x2), (3, va_rf x3)]) (dd TX7_inForce_0 38 rfl) 4 rfl (congrArg (fun q : Int32 => x4 + q) (show Int32.ofInt (1) = (1 : Int32) from by decide)) (by decide) (by first | rfl | (simp only [List.filter, cat_rf]; rfl)) ?_
  refine ok_goto (tgt := 5) (dd TX7_inForce_0 39 rfl) (by decide) ?_
  refine ok_sub [1, 2, 3, 4, 0] rfl ?_
  exact hk5 this x1 x2 x3 (x4 + (1 : Int32))
def F_X7_inForce_L77 (k5 : Nat → Int32 → Int32 → Option Nat → Int32 → M (Option Nat)) (this : Nat) (x1 : Int32) (x2 : Int32) (x4 : Int32) (x5 : Option Nat) : M (Option Nat) := F_X7_inForce_L80 k5 this x1 x2 x5 x4
set_option maxRecDepth 100000 in
theorem O_X7_inForce_L77 (Γ : Gam) (k5 : Nat → Int32 → Int32 → Option Nat → Int32 → M (Option Nat)) (hk5 : ∀ (z0 : Nat) (z1 : Int32) (z2 : Int32) (z3 : Option Nat) (z4 : Int32), Ok Γ mX7_inForce 3 (qo Γ vP) 5 [(0, va_rf (some z0)), (1, .int z1), (2, .int z2), (3, va_rf z3), (4, .int z4)] [] (k5 z0 z1 z2 z3 z4)) (this : Nat) (x1 : Int32) (x2 : Int32) (x4 : Int32) (x5 : Option Nat) : Ok Γ mX7_inForce 3 (qo Γ vP) 77 [(0, va_rf (some this)), (1, .int x1), (2, .int x2), (4, .int x4), (5, va_rf x5)] [] (F_X7_inForce_L77 k5 this x1 x2 x4 x5) := by
  unfold F_X7_inForce_L77
  refine ok_aload (dd TX7_inForce_0 36 rfl) 4 rfl ?_
  refine ok_astore_n (lv' := [(3, va_rf x5), (0, va_rf (some this)), (1, .int x1), (2, .int x2), (4, .int x4), (5, va_rf x5)]) (dd TX7_inForce_0 37 rfl) (by decide) (by first | rfl | (simp only [List.filter, cat_rf]; rfl)) ?_
  refine ok_sub [1, 2, 3, 0, 4] rfl ?_
  exact O_X7_inForce_L80 Γ k5 hk5 this x1 x2 x5 x4
def F_X7_inForce_L54 (k5 : Nat → Int32 → Int32 → Option Nat → Int32 → M (Option Nat)) (this : Nat) (x1 : Int32) (x2 : Int32) (x3 : Option Nat) (x4 : Int32) (x5 : Option Nat) (y0 : Int32) : M (Option Nat) := if y0 = 0 then F_X7_inForce_L80 k5 this x1 x2 x3 x4 else if x3 = none then F_X7_inForce_L77 k5 this x1 x2 x4 x5 else bn (gI 6 1 x5) fun v9 => bn (gI 6 1 x3) fun v10 => if v9 < v10 then F_X7_inForce_L80 k5 this x1 x2 x3 x4 else F_X7_inForce_L77 k5 this x1 x2 x4 x5
set_option maxRecDepth 100000 in
theorem O_X7_inForce_L54 (Γ : Gam) (k5 : Nat → Int32 → Int32 → Option Nat → Int32 → M (Option Nat)) (hk5 : ∀ (z0 : Nat) (z1 : Int32) (z2 : Int32) (z3 : Option Nat) (z4 : Int32), Ok Γ mX7_inForce 3 (qo Γ vP) 5 [(0, va_rf (some z0)), (1, .int z1), (2, .int z2), (3, va_rf z3), (4, .int z4)] [] (k5 z0 z1 z2 z3 z4)) (this : Nat) (x1 : Int32) (x2 : Int32) (x3 : Option Nat) (x4 : Int32) (x5 : Option Nat) (y0 : Int32) : Ok Γ mX7_inForce 3 (qo Γ vP) 54 [(0, va_rf (some this)), (1, .int x1), (2, .int x2), (3, va_rf x3), (4, .int x4), (5, va_rf x5)] [.int y0] (F_X7_inForce_L54 k5 this x1 x2 x3 x4 x5 y0) := by
  unfold F_X7_inForce_L54
  refine ok_istore (lv' := [(6, .int y0), (0, va_rf (some this)), (1, .int x1), (2, .int x2), (3, va_rf x3), (4, .int x4), (5, va_rf x5)]) (dd TX7_inForce_0 26 rfl) (by decide) (by first | rfl | (simp only [List.filter, cat_rf]; rfl)) ?_
  refine ok_iload (dd TX7_inForce_0 27 rfl) 0 rfl ?_
  refine ok_if_eq (tgt := 80) (dd TX7_inForce_0 28 rfl) (by decide) ?_ ?_
  · refine ok_sub [1, 2, 3, 4, 5] rfl ?_
    exact O_X7_inForce_L80 Γ k5 hk5 this x1 x2 x3 x4
  · refine ok_aload_n (dd TX7_inForce_0 29 rfl) 4 rfl ?_
    refine ok_ifnull (tgt := 77) (dd TX7_inForce_0 30 rfl) (by decide) ?_ ?_
    · refine ok_sub [1, 2, 3, 5, 6] rfl ?_
      exact O_X7_inForce_L77 Γ k5 hk5 this x1 x2 x4 x5
    · refine ok_aload (dd TX7_inForce_0 31 rfl) 6 rfl ?_
      refine ok_gI fl_RX7_52 rfl (dd TX7_inForce_0 32 rfl) (fun v9 => ?_)
      refine ok_aload_n (dd TX7_inForce_0 33 rfl) 4 rfl ?_
      refine ok_gI fl_RX7_52 rfl (dd TX7_inForce_0 34 rfl) (fun v10 => ?_)
      refine ok_icmp_lt (tgt := 80) (dd TX7_inForce_0 35 rfl) (by decide) ?_ ?_
      · refine ok_sub [1, 2, 3, 4, 5] rfl ?_
        exact O_X7_inForce_L80 Γ k5 hk5 this x1 x2 x3 x4
      · refine ok_sub [1, 2, 3, 5, 6] rfl ?_
        exact O_X7_inForce_L77 Γ k5 hk5 this x1 x2 x4 x5
def F_X7_inForce_L53 (k5 : Nat → Int32 → Int32 → Option Nat → Int32 → M (Option Nat)) (this : Nat) (x1 : Int32) (x2 : Int32) (x3 : Option Nat) (x4 : Int32) (x5 : Option Nat) : M (Option Nat) := F_X7_inForce_L54 k5 this x1 x2 x3 x4 x5 (0 : Int32)
set_option maxRecDepth 100000 in
theorem O_X7_inForce_L53 (Γ : Gam) (k5 : Nat → Int32 → Int32 → Option Nat → Int32 → M (Option Nat)) (hk5 : ∀ (z0 : Nat) (z1 : Int32) (z2 : Int32) (z3 : Option Nat) (z4 : Int32), Ok Γ mX7_inForce 3 (qo Γ vP) 5 [(0, va_rf (some z0)), (1, .int z1), (2, .int z2), (3, va_rf z3), (4, .int z4)] [] (k5 z0 z1 z2 z3 z4)) (this : Nat) (x1 : Int32) (x2 : Int32) (x3 : Option Nat) (x4 : Int32) (x5 : Option Nat) : Ok Γ mX7_inForce 3 (qo Γ vP) 53 [(0, va_rf (some this)), (1, .int x1), (2, .int x2), (3, va_rf x3), (4, .int x4), (5, va_rf x5)] [] (F_X7_inForce_L53 k5 this x1 x2 x3 x4 x5) := by
  unfold F_X7_inForce_L53
  refine ok_iconst (v := (0 : Int32)) (dd TX7_inForce_0 25 rfl) (by decide) ?_
  exact O_X7_inForce_L54 Γ k5 hk5 this x1 x2 x3 x4 x5 (0 : Int32)
def F_X7_inForce_L5 : Nat → Nat → Int32 → Int32 → Option Nat → Int32 → M (Option Nat)
  | 0 => fun _ _ _ _ _ => fl
  | n + 1 => fun this x1 x2 x3 x4 => bn (gP 7 0 (some this)) fun v1 => bn (pRc 13 v1) fun b2 => bn (F_Jx4a65c_size_8abf5 b2) fun v3 => if v3 ≤ x4 then rt x3 else bn (gP 7 0 (some this)) fun v4 => bn (pRc 13 v4) fun b5 => bn (F_Jx4a65c_get_915e3 b5 x4) fun v6 => bn (cst 6 v6) fun _ => bn (gI 6 0 v6) fun v7 => if ¬ v7 = x1 then F_X7_inForce_L53 (F_X7_inForce_L5 n) this x1 x2 x3 x4 v6 else bn (gI 6 1 v6) fun v8 => if x2 < v8 then F_X7_inForce_L53 (F_X7_inForce_L5 n) this x1 x2 x3 x4 v6 else F_X7_inForce_L54 (F_X7_inForce_L5 n) this x1 x2 x3 x4 v6 (1 : Int32)
set_option maxRecDepth 100000 in
theorem O_X7_inForce_L5 (Γ : Gam) (n : Nat) : ∀ (this : Nat) (x1 : Int32) (x2 : Int32) (x3 : Option Nat) (x4 : Int32), Ok Γ mX7_inForce 3 (qo Γ vP) 5 [(0, va_rf (some this)), (1, .int x1), (2, .int x2), (3, va_rf x3), (4, .int x4)] [] (F_X7_inForce_L5 n this x1 x2 x3 x4) := by
  induction n with
  | zero => intro this x1 x2 x3 x4; exact ok_fl
  | succ n ih =>
    intro this x1 x2 x3 x4
    rw [F_X7_inForce_L5]
    refine ok_iload (dd TX7_inForce_0 4 rfl) 4 rfl ?_
    refine ok_aload_n (dd TX7_inForce_0 5 rfl) 0 rfl ?_
    refine ok_gP fl_RX7_12 rfl (dd TX7_inForce_0 6 rfl) (fun v1 => ?_)
    refine ok_callVI (cn := 13) [] [.int x4] (fun b2 => C_Jx4a65c_size_8abf5 Γ b2) rfl cy_Jx4a65c_size_8abf5 ml_RX7_40 im_Jx4a65c_size_8abf5 se_Jx4a65c_size_8abf5 (by decide) (Nat.le_of_ble_eq_true rfl) rfl (dd TX7_inForce_0 7 rfl) (fun v3 => ?_)
    refine ok_icmp_ge (tgt := 86) (dd TX7_inForce_0 8 rfl) (by decide) ?_ ?_
    · refine ok_aload_n (dd TX7_inForce_1 0 rfl) 3 rfl ?_
      exact ok_areturn (dd TX7_inForce_1 1 rfl) rfl (by first | exact Or.inl ⟨_, rfl⟩ | exact Or.inr ⟨_, rfl⟩)
    · refine ok_aload_n (dd TX7_inForce_0 9 rfl) 0 rfl ?_
      refine ok_gP fl_RX7_12 rfl (dd TX7_inForce_0 10 rfl) (fun v4 => ?_)
      refine ok_iload (dd TX7_inForce_0 11 rfl) 4 rfl ?_
      refine ok_callVR (cn := 13) [.int x4] [] (fun b5 => C_Jx4a65c_get_915e3 Γ b5 x4) rfl cy_Jx4a65c_get_915e3 ml_RX7_44 im_Jx4a65c_get_915e3 se_Jx4a65c_get_915e3 (by decide) (Nat.le_of_ble_eq_true rfl) rfl (dd TX7_inForce_0 12 rfl) (fun v6 => ?_)
      refine ok_cst (cn := 6) rfl cl_RX7_32 (dd TX7_inForce_0 13 rfl) ?_
      refine ok_astore (lv' := [(5, va_rf v6), (0, va_rf (some this)), (1, .int x1), (2, .int x2), (3, va_rf x3), (4, .int x4)]) (dd TX7_inForce_0 14 rfl) (by decide) (by first | rfl | (simp only [List.filter, cat_rf]; rfl)) ?_
      refine ok_aload (dd TX7_inForce_0 15 rfl) 0 rfl ?_
      refine ok_gI fl_RX7_48 rfl (dd TX7_inForce_0 16 rfl) (fun v7 => ?_)
      refine ok_iload_n (dd TX7_inForce_0 17 rfl) 2 rfl ?_
      refine ok_icmp_ne (tgt := 53) (dd TX7_inForce_0 18 rfl) (by decide) ?_ ?_
      · refine ok_sub [1, 2, 3, 4, 5, 0] rfl ?_
        exact O_X7_inForce_L53 Γ (F_X7_inForce_L5 n) ih this x1 x2 x3 x4 v6
      · refine ok_aload (dd TX7_inForce_0 19 rfl) 0 rfl ?_
        refine ok_gI fl_RX7_52 rfl (dd TX7_inForce_0 20 rfl) (fun v8 => ?_)
        refine ok_iload_n (dd TX7_inForce_0 21 rfl) 3 rfl ?_
        refine ok_icmp_gt (tgt := 53) (dd TX7_inForce_0 22 rfl) (by decide) ?_ ?_
        · refine ok_sub [1, 2, 3, 4, 5, 0] rfl ?_
          exact O_X7_inForce_L53 Γ (F_X7_inForce_L5 n) ih this x1 x2 x3 x4 v6
        · refine ok_iconst (v := (1 : Int32)) (dd TX7_inForce_0 23 rfl) (by decide) ?_
          refine ok_goto (tgt := 54) (dd TX7_inForce_0 24 rfl) (by decide) ?_
          refine ok_sub [1, 2, 3, 4, 5, 0] rfl ?_
          exact O_X7_inForce_L54 Γ (F_X7_inForce_L5 n) ih this x1 x2 x3 x4 v6 (1 : Int32)
def F_X7_inForce (this : Nat) (p0 : Int32) (p1 : Int32) : M (Option Nat) := F_X7_inForce_L5 FU this p0 p1 none (0 : Int32)
set_option maxRecDepth 100000 in
theorem C_X7_inForce (Γ : Gam) (this : Nat) (p0 : Int32) (p1 : Int32) : Ct Γ mX7_inForce 3 vP [va_rf (some this), .int p0, .int p1] (F_X7_inForce this p0 p1) := by
  refine ct_in (lv := [(0, va_rf (some this)), (1, .int p0), (2, .int p1)]) (by decide) (by first | rfl | (simp only [lv_args, cat_rf]; rfl)) (by first | exact Nat.le_of_ble_eq_true rfl | (rw [lg_len]; simp only [List.map_cons, List.map_nil, cat_rf]; exact Nat.le_of_ble_eq_true rfl)) ?_
  unfold F_X7_inForce
  refine ok_null (dd TX7_inForce_0 0 rfl) ?_
  refine ok_astore_n (lv' := [(3, va_rf none), (0, va_rf (some this)), (1, .int p0), (2, .int p1)]) (dd TX7_inForce_0 1 rfl) (by decide) (by first | rfl | (simp only [List.filter, cat_rf]; rfl)) ?_
  refine ok_iconst (v := (0 : Int32)) (dd TX7_inForce_0 2 rfl) (by decide) ?_
  refine ok_istore (lv' := [(4, .int (0 : Int32)), (3, va_rf none), (0, va_rf (some this)), (1, .int p0), (2, .int p1)]) (dd TX7_inForce_0 3 rfl) (by decide) (by first | rfl | (simp only [List.filter, cat_rf]; rfl)) ?_
  refine ok_sub [2, 3, 4, 1, 0] rfl ?_
  exact O_X7_inForce_L5 Γ FU this p0 p1 none (0 : Int32)
def F_X7_combine (p0 : Int32) (p1 : Int32) (p2 : Int32) : M Int32 := swF p0 [((14 : Int32), 133, rt (if p2 < p1 then p2 else p1)), ((42 : Int32), 84, rt (p1 * p2)), ((43 : Int32), 76, rt (p1 + p2)), ((45 : Int32), 80, rt (p1 - p2)), ((47 : Int32), 88, if ¬ p2 = 0 then bn (dvI p1 p2) fun _ => rt (p1 / p2) else rt (0 : Int32)), ((60 : Int32), 100, if p2 ≤ p1 then rt (0 : Int32) else rt (1 : Int32)), ((61 : Int32), 122, if ¬ p1 = p2 then rt (0 : Int32) else rt (1 : Int32)), ((62 : Int32), 111, if p1 ≤ p2 then rt (0 : Int32) else rt (1 : Int32))] (rt (if p1 < p2 then p2 else p1))
set_option maxRecDepth 100000 in
theorem C_X7_combine (Γ : Gam) (p0 : Int32) (p1 : Int32) (p2 : Int32) : Ct Γ mX7_combine 1 vI [.int p0, .int p1, .int p2] (F_X7_combine p0 p1 p2) := by
  refine ct_in (lv := [(0, .int p0), (1, .int p1), (2, .int p2)]) (by decide) (by first | rfl | (simp only [lv_args, cat_rf]; rfl)) (by first | exact Nat.le_of_ble_eq_true rfl | (rw [lg_len]; simp only [List.map_cons, List.map_nil, cat_rf]; exact Nat.le_of_ble_eq_true rfl)) ?_
  unfold F_X7_combine
  refine ok_iload_n (dd TX7_combine_0 0 rfl) 0 rfl ?_
  refine ok_lsw (dt := 139) (dd TX7_combine_0 1 rfl) rfl (List.forall_mem_cons.mpr ⟨?_, List.forall_mem_cons.mpr ⟨?_, List.forall_mem_cons.mpr ⟨?_, List.forall_mem_cons.mpr ⟨?_, List.forall_mem_cons.mpr ⟨?_, List.forall_mem_cons.mpr ⟨?_, List.forall_mem_cons.mpr ⟨?_, List.forall_mem_cons.mpr ⟨?_, fun _ h => absurd h List.not_mem_nil⟩⟩⟩⟩⟩⟩⟩⟩) ?_
  · show Ok _ _ _ _ 133 _ _ (rt (if p2 < p1 then p2 else p1))
    refine ok_iload_n (dd TX7_combine_1 3 rfl) 1 rfl ?_
    refine ok_iload_n (dd TX7_combine_1 4 rfl) 2 rfl ?_
    refine ok_mmin ml_RX7_72 ms_min w_mi mc_min (by decide) (Nat.le_of_ble_eq_true rfl) (dd TX7_combine_1 5 rfl) ?_
    exact ok_ireturn (dd TX7_combine_1 6 rfl) rfl
  · show Ok _ _ _ _ 84 _ _ (rt (p1 * p2))
    refine ok_iload_n (dd TX7_combine_0 10 rfl) 1 rfl ?_
    refine ok_iload_n (dd TX7_combine_0 11 rfl) 2 rfl ?_
    refine ok_imul (dd TX7_combine_0 12 rfl) ?_
    exact ok_ireturn (dd TX7_combine_0 13 rfl) rfl
  · show Ok _ _ _ _ 76 _ _ (rt (p1 + p2))
    refine ok_iload_n (dd TX7_combine_0 2 rfl) 1 rfl ?_
    refine ok_iload_n (dd TX7_combine_0 3 rfl) 2 rfl ?_
    refine ok_iadd (dd TX7_combine_0 4 rfl) ?_
    exact ok_ireturn (dd TX7_combine_0 5 rfl) rfl
  · show Ok _ _ _ _ 80 _ _ (rt (p1 - p2))
    refine ok_iload_n (dd TX7_combine_0 6 rfl) 1 rfl ?_
    refine ok_iload_n (dd TX7_combine_0 7 rfl) 2 rfl ?_
    refine ok_isub (dd TX7_combine_0 8 rfl) ?_
    exact ok_ireturn (dd TX7_combine_0 9 rfl) rfl
  · show Ok _ _ _ _ 88 _ _ (if ¬ p2 = 0 then bn (dvI p1 p2) fun _ => rt (p1 / p2) else rt (0 : Int32))
    refine ok_iload_n (dd TX7_combine_0 14 rfl) 2 rfl ?_
    refine ok_if_ne (tgt := 96) (dd TX7_combine_0 15 rfl) (by decide) ?_ ?_
    · refine ok_iload_n (dd TX7_combine_0 18 rfl) 1 rfl ?_
      refine ok_iload_n (dd TX7_combine_0 19 rfl) 2 rfl ?_
      refine ok_idiv (dd TX7_combine_0 20 rfl) ?_
      exact ok_ireturn (dd TX7_combine_0 21 rfl) rfl
    · refine ok_iconst (v := (0 : Int32)) (dd TX7_combine_0 16 rfl) (by decide) ?_
      refine ok_goto (tgt := 99) (dd TX7_combine_0 17 rfl) (by decide) ?_
      exact ok_ireturn (dd TX7_combine_0 21 rfl) rfl
  · show Ok _ _ _ _ 100 _ _ (if p2 ≤ p1 then rt (0 : Int32) else rt (1 : Int32))
    refine ok_iload_n (dd TX7_combine_0 22 rfl) 1 rfl ?_
    refine ok_iload_n (dd TX7_combine_0 23 rfl) 2 rfl ?_
    refine ok_icmp_ge (tgt := 109) (dd TX7_combine_0 24 rfl) (by decide) ?_ ?_
    · refine ok_iconst (v := (0 : Int32)) (dd TX7_combine_0 27 rfl) (by decide) ?_
      exact ok_ireturn (dd TX7_combine_0 28 rfl) rfl
    · refine ok_iconst (v := (1 : Int32)) (dd TX7_combine_0 25 rfl) (by decide) ?_
      refine ok_goto (tgt := 110) (dd TX7_combine_0 26 rfl) (by decide) ?_
      exact ok_ireturn (dd TX7_combine_0 28 rfl) rfl
  · show Ok _ _ _ _ 122 _ _ (if ¬ p1 = p2 then rt (0 : Int32) else rt (1 : Int32))
    refine ok_iload_n (dd TX7_combine_0 36 rfl) 1 rfl ?_
    refine ok_iload_n (dd TX7_combine_0 37 rfl) 2 rfl ?_
    refine ok_icmp_ne (tgt := 131) (dd TX7_combine_0 38 rfl) (by decide) ?_ ?_
    · refine ok_iconst (v := (0 : Int32)) (dd TX7_combine_1 1 rfl) (by decide) ?_
      exact ok_ireturn (dd TX7_combine_1 2 rfl) rfl
    · refine ok_iconst (v := (1 : Int32)) (dd TX7_combine_0 39 rfl) (by decide) ?_
      refine ok_goto (tgt := 132) (dd TX7_combine_1 0 rfl) (by decide) ?_
      exact ok_ireturn (dd TX7_combine_1 2 rfl) rfl
  · show Ok _ _ _ _ 111 _ _ (if p1 ≤ p2 then rt (0 : Int32) else rt (1 : Int32))
    refine ok_iload_n (dd TX7_combine_0 29 rfl) 1 rfl ?_
    refine ok_iload_n (dd TX7_combine_0 30 rfl) 2 rfl ?_
    refine ok_icmp_le (tgt := 120) (dd TX7_combine_0 31 rfl) (by decide) ?_ ?_
    · refine ok_iconst (v := (0 : Int32)) (dd TX7_combine_0 34 rfl) (by decide) ?_
      exact ok_ireturn (dd TX7_combine_0 35 rfl) rfl
    · refine ok_iconst (v := (1 : Int32)) (dd TX7_combine_0 32 rfl) (by decide) ?_
      refine ok_goto (tgt := 121) (dd TX7_combine_0 33 rfl) (by decide) ?_
      exact ok_ireturn (dd TX7_combine_0 35 rfl) rfl
  · show Ok _ _ _ _ 139 _ _ (rt (if p1 < p2 then p2 else p1))
    refine ok_iload_n (dd TX7_combine_1 7 rfl) 1 rfl ?_
    refine ok_iload_n (dd TX7_combine_1 8 rfl) 2 rfl ?_
    refine ok_mmax ml_RX7_78 ms_max w_mi mc_max (by decide) (Nat.le_of_ble_eq_true rfl) (dd TX7_combine_1 9 rfl) ?_
    exact ok_ireturn (dd TX7_combine_1 10 rfl) rfl
def F_X7_push (this : Nat) (p0 : Int32) : M Unit := bn (gI 7 3 (some this)) fun v1 => bn (gP 7 2 (some this)) fun v2 => bn (len v2) fun v3 => if v3 ≤ v1 then rt () else bn (gP 7 2 (some this)) fun v4 => bn (gI 7 3 (some this)) fun v5 => bn (stI 144 v4 v5 p0) fun _ => bn (gI 7 3 (some this)) fun v6 => bn (wI 7 3 (some this) (v6 + (1 : Int32))) fun _ => rt ()
set_option maxRecDepth 100000 in
theorem C_X7_push (Γ : Gam) (this : Nat) (p0 : Int32) : Ct Γ mX7_push 0 vV [va_rf (some this), .int p0] (F_X7_push this p0) := by
  refine ct_in (lv := [(0, va_rf (some this)), (1, .int p0)]) (by decide) (by first | rfl | (simp only [lv_args, cat_rf]; rfl)) (by first | exact Nat.le_of_ble_eq_true rfl | (rw [lg_len]; simp only [List.map_cons, List.map_nil, cat_rf]; exact Nat.le_of_ble_eq_true rfl)) ?_
  unfold F_X7_push
  refine ok_aload_n (dd TX7_push_0 0 rfl) 0 rfl ?_
  refine ok_gI fl_RX7_55 rfl (dd TX7_push_0 1 rfl) (fun v1 => ?_)
  refine ok_aload_n (dd TX7_push_0 2 rfl) 0 rfl ?_
  refine ok_gP fl_RX7_24 rfl (dd TX7_push_0 3 rfl) (fun v2 => ?_)
  refine ok_len (dd TX7_push_0 4 rfl) (fun v3 => ?_)
  refine ok_icmp_ge (tgt := 32) (dd TX7_push_0 5 rfl) (by decide) ?_ ?_
  · exact ok_return (dd TX7_push_0 18 rfl) rfl
  · refine ok_aload_n (dd TX7_push_0 6 rfl) 0 rfl ?_
    refine ok_gP fl_RX7_24 rfl (dd TX7_push_0 7 rfl) (fun v4 => ?_)
    refine ok_aload_n (dd TX7_push_0 8 rfl) 0 rfl ?_
    refine ok_gI fl_RX7_55 rfl (dd TX7_push_0 9 rfl) (fun v5 => ?_)
    refine ok_iload_n (dd TX7_push_0 10 rfl) 1 rfl ?_
    refine ok_stI (kd := 144) (by decide) rfl (dd TX7_push_0 11 rfl) ?_
    refine ok_aload_n (dd TX7_push_0 12 rfl) 0 rfl ?_
    refine ok_dup (dd TX7_push_0 13 rfl) (by first | rfl | exact cat_rf _) ?_
    refine ok_gI fl_RX7_55 rfl (dd TX7_push_0 14 rfl) (fun v6 => ?_)
    refine ok_iconst (v := (1 : Int32)) (dd TX7_push_0 15 rfl) (by decide) ?_
    refine ok_iadd (dd TX7_push_0 16 rfl) ?_
    refine ok_wI fl_RX7_55 (Or.inl rfl) (tyX7_ok 3 (by decide)) (by decide) rfl (dd TX7_push_0 17 rfl) ?_
    exact ok_return (dd TX7_push_0 18 rfl) rfl
def F_X7_pop (this : Nat) : M Int32 := bn (gI 7 3 (some this)) fun v1 => if ¬ v1 = 0 then bn (gI 7 3 (some this)) fun v2 => bn (wI 7 3 (some this) (v2 - (1 : Int32))) fun _ => bn (gP 7 2 (some this)) fun v3 => bn (gI 7 3 (some this)) fun v4 => bn (lI 144 v3 v4) fun v5 => rt v5 else rt (0 : Int32)
set_option maxRecDepth 100000 in
theorem C_X7_pop (Γ : Gam) (this : Nat) : Ct Γ mX7_pop 0 vI [va_rf (some this)] (F_X7_pop this) := by
  refine ct_in (lv := [(0, va_rf (some this))]) (by decide) (by first | rfl | (simp only [lv_args, cat_rf]; rfl)) (by first | exact Nat.le_of_ble_eq_true rfl | (rw [lg_len]; simp only [List.map_cons, List.map_nil, cat_rf]; exact Nat.le_of_ble_eq_true rfl)) ?_
  unfold F_X7_pop
  refine ok_aload_n (dd TX7_pop_0 0 rfl) 0 rfl ?_
  refine ok_gI fl_RX7_55 rfl (dd TX7_pop_0 1 rfl) (fun v1 => ?_)
  refine ok_if_ne (tgt := 9) (dd TX7_pop_0 2 rfl) (by decide) ?_ ?_
  · refine ok_aload_n (dd TX7_pop_0 5 rfl) 0 rfl ?_
    refine ok_dup (dd TX7_pop_0 6 rfl) (by first | rfl | exact cat_rf _) ?_
    refine ok_gI fl_RX7_55 rfl (dd TX7_pop_0 7 rfl) (fun v2 => ?_)
    refine ok_iconst (v := (1 : Int32)) (dd TX7_pop_0 8 rfl) (by decide) ?_
    refine ok_isub (dd TX7_pop_0 9 rfl) ?_
    refine ok_wI fl_RX7_55 (Or.inl rfl) (tyX7_ok 3 (by decide)) (by decide) rfl (dd TX7_pop_0 10 rfl) ?_
    refine ok_aload_n (dd TX7_pop_0 11 rfl) 0 rfl ?_
    refine ok_gP fl_RX7_24 rfl (dd TX7_pop_0 12 rfl) (fun v3 => ?_)
    refine ok_aload_n (dd TX7_pop_0 13 rfl) 0 rfl ?_
    refine ok_gI fl_RX7_55 rfl (dd TX7_pop_0 14 rfl) (fun v4 => ?_)
    refine ok_lI (kd := 144) (by decide) rfl (dd TX7_pop_0 15 rfl) (fun v5 => ?_)
    exact ok_ireturn (dd TX7_pop_0 16 rfl) rfl
  · refine ok_iconst (v := (0 : Int32)) (dd TX7_pop_0 3 rfl) (by decide) ?_
    exact ok_ireturn (dd TX7_pop_0 4 rfl) rfl
def F_X8_init (this : Nat) (p0 : Int32) (p1 : Int32) (p2 : Option Nat) : M Unit := bn (wI 8 0 (some this) p0) fun _ => bn (wI 8 1 (some this) p1) fun _ => bn (wP 8 2 (some this) p2) fun _ => rt ()
set_option maxRecDepth 100000 in
theorem C_X8_init (Γ : Gam) (this : Nat) (p0 : Int32) (p1 : Int32) (p2 : Option Nat) : Ct Γ mX8_init 1 vV [va_rf (some this), .int p0, .int p1, va_rf p2] (F_X8_init this p0 p1 p2) := by
  refine ct_in (lv := [(0, va_rf (some this)), (1, .int p0), (2, .int p1), (3, va_rf p2)]) (by decide) (by first | rfl | (simp only [lv_args, cat_rf]; rfl)) (by first | exact Nat.le_of_ble_eq_true rfl | (rw [lg_len]; simp only [List.map_cons, List.map_nil, cat_rf]; exact Nat.le_of_ble_eq_true rfl)) ?_
  unfold F_X8_init
  refine ok_aload_n (dd TX8_init_0 0 rfl) 0 rfl ?_
  refine ok_objInit ml_RX8_1 w_oi w_oc ⟨_, rfl⟩ (by decide) (Nat.le_of_ble_eq_true rfl) (dd TX8_init_0 1 rfl) ?_
  refine ok_aload_n (dd TX8_init_0 2 rfl) 0 rfl ?_
  refine ok_iload_n (dd TX8_init_0 3 rfl) 1 rfl ?_
  refine ok_wI fl_RX8_7 (Or.inr ⟨rfl, rfl, rfl⟩) (tyX8_ok 0 (by decide)) (by decide) rfl (dd TX8_init_0 4 rfl) ?_
  refine ok_aload_n (dd TX8_init_0 5 rfl) 0 rfl ?_
  refine ok_iload_n (dd TX8_init_0 6 rfl) 2 rfl ?_
  refine ok_wI fl_RX8_13 (Or.inr ⟨rfl, rfl, rfl⟩) (tyX8_ok 1 (by decide)) (by decide) rfl (dd TX8_init_0 7 rfl) ?_
  refine ok_aload_n (dd TX8_init_0 8 rfl) 0 rfl ?_
  refine ok_aload_n (dd TX8_init_0 9 rfl) 3 rfl ?_
  refine ok_wP fl_RX8_16 (Or.inr ⟨rfl, rfl, rfl⟩) (tyX8_ok 2 (by decide)) rf_obj (by decide) rfl (dd TX8_init_0 10 rfl) ?_
  exact ok_return (dd TX8_init_0 11 rfl) rfl
def F_X9_init (this : Nat) (p0 : Int32) (p1 : Int32) (p2 : Int32) (p3 : Int32) : M Unit := bn (wI 9 0 (some this) p0) fun _ => bn (wI 9 3 (some this) p1) fun _ => bn (wI 9 1 (some this) p2) fun _ => bn (wI 9 2 (some this) p3) fun _ => rt ()
set_option maxRecDepth 100000 in
theorem C_X9_init (Γ : Gam) (this : Nat) (p0 : Int32) (p1 : Int32) (p2 : Int32) (p3 : Int32) : Ct Γ mX9_init 1 vV [va_rf (some this), .int p0, .int p1, .int p2, .int p3] (F_X9_init this p0 p1 p2 p3) := by
  refine ct_in (lv := [(0, va_rf (some this)), (1, .int p0), (2, .int p1), (3, .int p2), (4, .int p3)]) (by decide) (by first | rfl | (simp only [lv_args, cat_rf]; rfl)) (by first | exact Nat.le_of_ble_eq_true rfl | (rw [lg_len]; simp only [List.map_cons, List.map_nil, cat_rf]; exact Nat.le_of_ble_eq_true rfl)) ?_
  unfold F_X9_init
  refine ok_aload_n (dd TX9_init_0 0 rfl) 0 rfl ?_
  refine ok_objInit ml_RX9_1 w_oi w_oc ⟨_, rfl⟩ (by decide) (Nat.le_of_ble_eq_true rfl) (dd TX9_init_0 1 rfl) ?_
  refine ok_aload_n (dd TX9_init_0 2 rfl) 0 rfl ?_
  refine ok_iload_n (dd TX9_init_0 3 rfl) 1 rfl ?_
  refine ok_wI fl_RX9_7 (Or.inr ⟨rfl, rfl, rfl⟩) (tyX9_ok 0 (by decide)) (by decide) rfl (dd TX9_init_0 4 rfl) ?_
  refine ok_aload_n (dd TX9_init_0 5 rfl) 0 rfl ?_
  refine ok_iload_n (dd TX9_init_0 6 rfl) 2 rfl ?_
  refine ok_wI fl_RX9_13 (Or.inl rfl) (tyX9_ok 3 (by decide)) (by decide) rfl (dd TX9_init_0 7 rfl) ?_
  refine ok_aload_n (dd TX9_init_0 8 rfl) 0 rfl ?_
  refine ok_iload_n (dd TX9_init_0 9 rfl) 3 rfl ?_
  refine ok_wI fl_RX9_16 (Or.inr ⟨rfl, rfl, rfl⟩) (tyX9_ok 1 (by decide)) (by decide) rfl (dd TX9_init_0 10 rfl) ?_
  refine ok_aload_n (dd TX9_init_0 11 rfl) 0 rfl ?_
  refine ok_iload (dd TX9_init_0 12 rfl) 4 rfl ?_
  refine ok_wI fl_RX9_19 (Or.inr ⟨rfl, rfl, rfl⟩) (tyX9_ok 2 (by decide)) (by decide) rfl (dd TX9_init_0 13 rfl) ?_
  exact ok_return (dd TX9_init_0 14 rfl) rfl
def F_X10_init (this : Nat) (p0 : Int32) (p1 : Int32) (p2 : Int32) (p3 : Int32) (p4 : Int32) (p5 : Int32) : M Unit := bn (wI 10 0 (some this) p0) fun _ => bn (wI 10 1 (some this) p1) fun _ => bn (wI 10 2 (some this) p2) fun _ => bn (wI 10 3 (some this) p3) fun _ => bn (wI 10 4 (some this) p4) fun _ => bn (wI 10 5 (some this) p5) fun _ => rt ()
set_option maxRecDepth 100000 in
theorem C_X10_init (Γ : Gam) (this : Nat) (p0 : Int32) (p1 : Int32) (p2 : Int32) (p3 : Int32) (p4 : Int32) (p5 : Int32) : Ct Γ mX10_init 1 vV [va_rf (some this), .int p0, .int p1, .int p2, .int p3, .int p4, .int p5] (F_X10_init this p0 p1 p2 p3 p4 p5) := by
  refine ct_in (lv := [(0, va_rf (some this)), (1, .int p0), (2, .int p1), (3, .int p2), (4, .int p3), (5, .int p4), (6, .int p5)]) (by decide) (by first | rfl | (simp only [lv_args, cat_rf]; rfl)) (by first | exact Nat.le_of_ble_eq_true rfl | (rw [lg_len]; simp only [List.map_cons, List.map_nil, cat_rf]; exact Nat.le_of_ble_eq_true rfl)) ?_
  unfold F_X10_init
  refine ok_aload_n (dd TX10_init_0 0 rfl) 0 rfl ?_
  refine ok_objInit ml_RX10_1 w_oi w_oc ⟨_, rfl⟩ (by decide) (Nat.le_of_ble_eq_true rfl) (dd TX10_init_0 1 rfl) ?_
  refine ok_aload_n (dd TX10_init_0 2 rfl) 0 rfl ?_
  refine ok_iload_n (dd TX10_init_0 3 rfl) 1 rfl ?_
  refine ok_wI fl_RX10_7 (Or.inr ⟨rfl, rfl, rfl⟩) (tyX10_ok 0 (by decide)) (by decide) rfl (dd TX10_init_0 4 rfl) ?_
  refine ok_aload_n (dd TX10_init_0 5 rfl) 0 rfl ?_
  refine ok_iload_n (dd TX10_init_0 6 rfl) 2 rfl ?_
  refine ok_wI fl_RX10_13 (Or.inr ⟨rfl, rfl, rfl⟩) (tyX10_ok 1 (by decide)) (by decide) rfl (dd TX10_init_0 7 rfl) ?_
  refine ok_aload_n (dd TX10_init_0 8 rfl) 0 rfl ?_
  refine ok_iload_n (dd TX10_init_0 9 rfl) 3 rfl ?_
  refine ok_wI fl_RX10_16 (Or.inr ⟨rfl, rfl, rfl⟩) (tyX10_ok 2 (by decide)) (by decide) rfl (dd TX10_init_0 10 rfl) ?_
  refine ok_aload_n (dd TX10_init_0 11 rfl) 0 rfl ?_
  refine ok_iload (dd TX10_init_0 12 rfl) 4 rfl ?_
  refine ok_wI fl_RX10_19 (Or.inr ⟨rfl, rfl, rfl⟩) (tyX10_ok 3 (by decide)) (by decide) rfl (dd TX10_init_0 13 rfl) ?_
  refine ok_aload_n (dd TX10_init_0 14 rfl) 0 rfl ?_
  refine ok_iload (dd TX10_init_0 15 rfl) 5 rfl ?_
  refine ok_wI fl_RX10_22 (Or.inr ⟨rfl, rfl, rfl⟩) (tyX10_ok 4 (by decide)) (by decide) rfl (dd TX10_init_0 16 rfl) ?_
  refine ok_aload_n (dd TX10_init_0 17 rfl) 0 rfl ?_
  refine ok_iload (dd TX10_init_0 18 rfl) 6 rfl ?_
  refine ok_wI fl_RX10_25 (Or.inr ⟨rfl, rfl, rfl⟩) (tyX10_ok 5 (by decide)) (by decide) rfl (dd TX10_init_0 19 rfl) ?_
  exact ok_return (dd TX10_init_0 20 rfl) rfl
def F_X11_init_L37 : Nat → Nat → Int32 → M Unit
  | 0 => fun _ _ => fl
  | n + 1 => fun this x1 => if (6 : Int32) ≤ x1 then bn (newO 13 3) fun r6 => bn (pRc 13 r6) fun b7 => bn (F_Jx4a65c_init_da8c8 b7) fun _ => bn (wP 11 3 (some this) r6) fun _ => bn (newO 13 3) fun r8 => bn (pRc 13 r8) fun b9 => bn (F_Jx4a65c_init_da8c8 b9) fun _ => bn (wP 11 4 (some this) r8) fun _ => bn (newO 13 3) fun r10 => bn (pRc 13 r10) fun b11 => bn (F_Jx4a65c_init_da8c8 b11) fun _ => bn (wP 11 5 (some this) r10) fun _ => bn (newO 13 3) fun r12 => bn (pRc 13 r12) fun b13 => bn (F_Jx4a65c_init_da8c8 b13) fun _ => bn (wP 11 6 (some this) r12) fun _ => bn (newO 13 3) fun r14 => bn (pRc 13 r14) fun b15 => bn (F_Jx4a65c_init_da8c8 b15) fun _ => bn (wP 11 7 (some this) r14) fun _ => rt () else bn (gP 11 2 (some this)) fun v16 => bn (newO 2 4) fun r17 => bn (pRc 2 r17) fun b18 => bn (F_X2_init b18) fun _ => bn (stP 157 2 v16 x1 r17) fun _ => F_X11_init_L37 n this (x1 + (1 : Int32))
set_option maxRecDepth 100000 in
theorem O_X11_init_L37 (Γ : Gam) (n : Nat) : ∀ (this : Nat) (x1 : Int32), Ok Γ mX11_init 5 (qo Γ vV) 37 [(0, va_rf (some this)), (1, .int x1)] [] (F_X11_init_L37 n this x1) := by
  induction n with
  | zero => intro this x1; exact ok_fl
  | succ n ih =>
    intro this x1
    rw [F_X11_init_L37]
    refine ok_iload_n (dd TX11_init_0 18 rfl) 1 rfl ?_
    refine ok_bipush (v := (6 : Int32)) (dd TX11_init_0 19 rfl) (by decide) ?_
    refine ok_icmp_ge (tgt := 62) (dd TX11_init_0 20 rfl) (by decide) ?_ ?_
    · refine ok_aload_n (dd TX11_init_0 30 rfl) 0 rfl ?_
      refine ok_newO cf_13 tyJx4a65c tyJx4a65c_ok df_13 cl_RX11_30 ib_13 in_13 (dd TX11_init_0 31 rfl) (fun r6 => ?_)
      refine ok_dup (dd TX11_init_0 32 rfl) (by first | rfl | exact cat_rf _) ?_
      refine ok_callI (cn := 13) [] [va_rf r6, va_rf (some this)] (fun b7 => C_Jx4a65c_init_da8c8 Γ b7) cy_Jx4a65c_init_da8c8 rfl rfl ml_RX11_32 im_Jx4a65c_init_da8c8 (by decide) (Nat.le_of_ble_eq_true rfl) rfl (dd TX11_init_0 33 rfl) ?_
      refine ok_wP fl_RX11_33 (Or.inr ⟨rfl, rfl, rfl⟩) (tyX11_ok 3 (by decide)) rf_obj (by decide) rfl (dd TX11_init_0 34 rfl) ?_
      refine ok_aload_n (dd TX11_init_0 35 rfl) 0 rfl ?_
      refine ok_newO cf_13 tyJx4a65c tyJx4a65c_ok df_13 cl_RX11_30 ib_13 in_13 (dd TX11_init_0 36 rfl) (fun r8 => ?_)
      refine ok_dup (dd TX11_init_0 37 rfl) (by first | rfl | exact cat_rf _) ?_
      refine ok_callI (cn := 13) [] [va_rf r8, va_rf (some this)] (fun b9 => C_Jx4a65c_init_da8c8 Γ b9) cy_Jx4a65c_init_da8c8 rfl rfl ml_RX11_32 im_Jx4a65c_init_da8c8 (by decide) (Nat.le_of_ble_eq_true rfl) rfl (dd TX11_init_0 38 rfl) ?_
      refine ok_wP fl_RX11_37 (Or.inr ⟨rfl, rfl, rfl⟩) (tyX11_ok 4 (by decide)) rf_obj (by decide) rfl (dd TX11_init_0 39 rfl) ?_
      refine ok_aload_n (dd TX11_init_1 0 rfl) 0 rfl ?_
      refine ok_newO cf_13 tyJx4a65c tyJx4a65c_ok df_13 cl_RX11_30 ib_13 in_13 (dd TX11_init_1 1 rfl) (fun r10 => ?_)
      refine ok_dup (dd TX11_init_1 2 rfl) (by first | rfl | exact cat_rf _) ?_
      refine ok_callI (cn := 13) [] [va_rf r10, va_rf (some this)] (fun b11 => C_Jx4a65c_init_da8c8 Γ b11) cy_Jx4a65c_init_da8c8 rfl rfl ml_RX11_32 im_Jx4a65c_init_da8c8 (by decide) (Nat.le_of_ble_eq_true rfl) rfl (dd TX11_init_1 3 rfl) ?_
      refine ok_wP fl_RX11_40 (Or.inr ⟨rfl, rfl, rfl⟩) (tyX11_ok 5 (by decide)) rf_obj (by decide) rfl (dd TX11_init_1 4 rfl) ?_
      refine ok_aload_n (dd TX11_init_1 5 rfl) 0 rfl ?_
      refine ok_newO cf_13 tyJx4a65c tyJx4a65c_ok df_13 cl_RX11_30 ib_13 in_13 (dd TX11_init_1 6 rfl) (fun r12 => ?_)
      refine ok_dup (dd TX11_init_1 7 rfl) (by first | rfl | exact cat_rf _) ?_
      refine ok_callI (cn := 13) [] [va_rf r12, va_rf (some this)] (fun b13 => C_Jx4a65c_init_da8c8 Γ b13) cy_Jx4a65c_init_da8c8 rfl rfl ml_RX11_32 im_Jx4a65c_init_da8c8 (by decide) (Nat.le_of_ble_eq_true rfl) rfl (dd TX11_init_1 8 rfl) ?_
      refine ok_wP fl_RX11_43 (Or.inr ⟨rfl, rfl, rfl⟩) (tyX11_ok 6 (by decide)) rf_obj (by decide) rfl (dd TX11_init_1 9 rfl) ?_
      refine ok_aload_n (dd TX11_init_1 10 rfl) 0 rfl ?_
      refine ok_newO cf_13 tyJx4a65c tyJx4a65c_ok df_13 cl_RX11_30 ib_13 in_13 (dd TX11_init_1 11 rfl) (fun r14 => ?_)
      refine ok_dup (dd TX11_init_1 12 rfl) (by first | rfl | exact cat_rf _) ?_
      refine ok_callI (cn := 13) [] [va_rf r14, va_rf (some this)] (fun b15 => C_Jx4a65c_init_da8c8 Γ b15) cy_Jx4a65c_init_da8c8 rfl rfl ml_RX11_32 im_Jx4a65c_init_da8c8 (by decide) (Nat.le_of_ble_eq_true rfl) rfl (dd TX11_init_1 13 rfl) ?_
      refine ok_wP fl_RX11_46 (Or.inr ⟨rfl, rfl, rfl⟩) (tyX11_ok 7 (by decide)) rf_obj (by decide) rfl (dd TX11_init_1 14 rfl) ?_
      exact ok_return (dd TX11_init_1 15 rfl) rfl
    · refine ok_aload_n (dd TX11_init_0 21 rfl) 0 rfl ?_
      refine ok_gP fl_RX11_25 rfl (dd TX11_init_0 22 rfl) (fun v16 => ?_)
      refine ok_iload_n (dd TX11_init_0 23 rfl) 1 rfl ?_
      refine ok_newO cf_2 tyX2 tyX2_ok df_2 cl_RX11_23 ib_2 in_2 (dd TX11_init_0 24 rfl) (fun r17 => ?_)
      refine ok_dup (dd TX11_init_0 25 rfl) (by first | rfl | exact cat_rf _) ?_
      refine ok_callIN (cn := 2) [] [va_rf r17, .int x1, va_rf v16] (fun b18 => C_X2_init Γ b18) cy_X2_init rfl rfl nl_RX11_29 im_X2_init (by decide) (Nat.le_of_ble_eq_true rfl) rfl (dd TX11_init_0 26 rfl) ?_
      refine ok_stP5 (kd := 157) (by decide) rfl (dd TX11_init_0 27 rfl) ?_
      refine ok_iinc (lv' := [(1, .int (x1 + (1 : Int32))), (0, va_rf (some this))]) (dd TX11_init_0 28 rfl) 1 rfl (congrArg (fun q : Int32 => x1 + q) (show Int32.ofInt (1) = (1 : Int32) from by decide)) (by decide) (by first | rfl | (simp only [List.filter, cat_rf]; rfl)) ?_
      refine ok_goto (tgt := 37) (dd TX11_init_0 29 rfl) (by decide) ?_
      refine ok_sub [1, 0] rfl ?_
      exact ih this (x1 + (1 : Int32))
def F_X11_init (this : Nat) : M Unit := bn (newO 4 11) fun r1 => bn (pRc 4 r1) fun b2 => bn (F_X4_init b2) fun _ => bn (wP 11 0 (some this) r1) fun _ => bn (newO 7 4) fun r3 => bn (pRc 7 r3) fun b4 => bn (F_X7_init b4) fun _ => bn (wP 11 1 (some this) r3) fun _ => bn (newA 157 (6 : Int32)) fun r5 => bn (wP 11 2 (some this) r5) fun _ => F_X11_init_L37 FU this (0 : Int32)
set_option maxRecDepth 100000 in
theorem C_X11_init (Γ : Gam) (this : Nat) : Ct Γ mX11_init 5 vV [va_rf (some this)] (F_X11_init this) := by
  refine ct_in (lv := [(0, va_rf (some this))]) (by decide) (by first | rfl | (simp only [lv_args, cat_rf]; rfl)) (by first | exact Nat.le_of_ble_eq_true rfl | (rw [lg_len]; simp only [List.map_cons, List.map_nil, cat_rf]; exact Nat.le_of_ble_eq_true rfl)) ?_
  unfold F_X11_init
  refine ok_aload_n (dd TX11_init_0 0 rfl) 0 rfl ?_
  refine ok_objInit ml_RX11_1 w_oi w_oc ⟨_, rfl⟩ (by decide) (Nat.le_of_ble_eq_true rfl) (dd TX11_init_0 1 rfl) ?_
  refine ok_aload_n (dd TX11_init_0 2 rfl) 0 rfl ?_
  refine ok_newO cf_4 tyX4 tyX4_ok df_4 cl_RX11_7 ib_4 in_4 (dd TX11_init_0 3 rfl) (fun r1 => ?_)
  refine ok_dup (dd TX11_init_0 4 rfl) (by first | rfl | exact cat_rf _) ?_
  refine ok_callIN (cn := 4) [] [va_rf r1, va_rf (some this)] (fun b2 => C_X4_init Γ b2) cy_X4_init rfl rfl nl_RX11_9 im_X4_init (by decide) (Nat.le_of_ble_eq_true rfl) rfl (dd TX11_init_0 5 rfl) ?_
  refine ok_wP fl_RX11_10 (Or.inr ⟨rfl, rfl, rfl⟩) (tyX11_ok 0 (by decide)) rf_obj (by decide) rfl (dd TX11_init_0 6 rfl) ?_
  refine ok_aload_n (dd TX11_init_0 7 rfl) 0 rfl ?_
  refine ok_newO cf_7 tyX7 tyX7_ok df_7 cl_RX11_16 ib_7 in_7 (dd TX11_init_0 8 rfl) (fun r3 => ?_)
  refine ok_dup (dd TX11_init_0 9 rfl) (by first | rfl | exact cat_rf _) ?_
  refine ok_callIN (cn := 7) [] [va_rf r3, va_rf (some this)] (fun b4 => C_X7_init Γ b4) cy_X7_init rfl rfl nl_RX11_18 im_X7_init (by decide) (Nat.le_of_ble_eq_true rfl) rfl (dd TX11_init_0 10 rfl) ?_
  refine ok_wP fl_RX11_19 (Or.inr ⟨rfl, rfl, rfl⟩) (tyX11_ok 1 (by decide)) rf_obj (by decide) rfl (dd TX11_init_0 11 rfl) ?_
  refine ok_aload_n (dd TX11_init_0 12 rfl) 0 rfl ?_
  refine ok_bipush (v := (6 : Int32)) (dd TX11_init_0 13 rfl) (by decide) ?_
  refine ok_newA5 (kd := 157) (by decide) rfl cw_RX11_23 ao_GrainPit_Month (dd TX11_init_0 14 rfl) (fun r5 => ?_)
  refine ok_wP fl_RX11_25 (Or.inr ⟨rfl, rfl, rfl⟩) (tyX11_ok 2 (by decide)) rf_arr (by decide) rfl (dd TX11_init_0 15 rfl) ?_
  refine ok_iconst (v := (0 : Int32)) (dd TX11_init_0 16 rfl) (by decide) ?_
  refine ok_istore_n (lv' := [(1, .int (0 : Int32)), (0, va_rf (some this))]) (dd TX11_init_0 17 rfl) (by decide) (by first | rfl | (simp only [List.filter, cat_rf]; rfl)) ?_
  refine ok_sub [1, 0] rfl ?_
  exact O_X11_init_L37 Γ FU this (0 : Int32)
def F_X11_feed (this : Nat) (p0 : Int32) (p1 : Int32) (p2 : Int32) (p3 : Int32) (p4 : Int32) : M Int32 := bn (gP 11 0 (some this)) fun v1 => bn (pRc 4 v1) fun b2 => bn (F_X4_hasRoomForFive b2) fun v3 => if ¬ v3 = 0 then bn (gP 11 0 (some this)) fun v4 => bn (pRc 4 v4) fun b5 => bn (F_X4_append b5 p0) fun _ => bn (gP 11 0 (some this)) fun v6 => bn (pRc 4 v6) fun b7 => bn (F_X4_append b7 p1) fun _ => bn (gP 11 0 (some this)) fun v8 => bn (pRc 4 v8) fun b9 => bn (F_X4_append b9 p2) fun _ => bn (gP 11 0 (some this)) fun v10 => bn (pRc 4 v10) fun b11 => bn (F_X4_append b11 p3) fun _ => bn (gP 11 0 (some this)) fun v12 => bn (pRc 4 v12) fun b13 => bn (F_X4_append b13 p4) fun _ => bn (gP 11 0 (some this)) fun v14 => bn (gI 4 1 v14) fun v15 => rt v15 else rt (-1 : Int32)
set_option maxRecDepth 100000 in
theorem C_X11_feed (Γ : Gam) (this : Nat) (p0 : Int32) (p1 : Int32) (p2 : Int32) (p3 : Int32) (p4 : Int32) : Ct Γ mX11_feed 1 vI [va_rf (some this), .int p0, .int p1, .int p2, .int p3, .int p4] (F_X11_feed this p0 p1 p2 p3 p4) := by
  refine ct_in (lv := [(0, va_rf (some this)), (1, .int p0), (2, .int p1), (3, .int p2), (4, .int p3), (5, .int p4)]) (by decide) (by first | rfl | (simp only [lv_args, cat_rf]; rfl)) (by first | exact Nat.le_of_ble_eq_true rfl | (rw [lg_len]; simp only [List.map_cons, List.map_nil, cat_rf]; exact Nat.le_of_ble_eq_true rfl)) ?_
  unfold F_X11_feed
  refine ok_aload_n (dd TX11_feed_0 0 rfl) 0 rfl ?_
  refine ok_gP fl_RX11_10 rfl (dd TX11_feed_0 1 rfl) (fun v1 => ?_)
  refine ok_callVI (cn := 4) [] [] (fun b2 => C_X4_hasRoomForFive Γ b2) rfl cy_X4_hasRoomForFive ml_RX11_49 im_X4_hasRoomForFive se_X4_hasRoomForFive (by decide) (Nat.le_of_ble_eq_true rfl) rfl (dd TX11_feed_0 2 rfl) (fun v3 => ?_)
  refine ok_if_ne (tgt := 12) (dd TX11_feed_0 3 rfl) (by decide) ?_ ?_
  · refine ok_aload_n (dd TX11_feed_0 6 rfl) 0 rfl ?_
    refine ok_gP fl_RX11_10 rfl (dd TX11_feed_0 7 rfl) (fun v4 => ?_)
    refine ok_iload_n (dd TX11_feed_0 8 rfl) 1 rfl ?_
    refine ok_callVV (cn := 4) [.int p0] [] (fun b5 => C_X4_append Γ b5 p0) rfl cy_X4_append ml_RX11_53 im_X4_append se_X4_append (by decide) (Nat.le_of_ble_eq_true rfl) rfl (dd TX11_feed_0 9 rfl) ?_
    refine ok_aload_n (dd TX11_feed_0 10 rfl) 0 rfl ?_
    refine ok_gP fl_RX11_10 rfl (dd TX11_feed_0 11 rfl) (fun v6 => ?_)
    refine ok_iload_n (dd TX11_feed_0 12 rfl) 2 rfl ?_
    refine ok_callVV (cn := 4) [.int p1] [] (fun b7 => C_X4_append Γ b7 p1) rfl cy_X4_append ml_RX11_53 im_X4_append se_X4_append (by decide) (Nat.le_of_ble_eq_true rfl) rfl (dd TX11_feed_0 13 rfl) ?_
    refine ok_aload_n (dd TX11_feed_0 14 rfl) 0 rfl ?_
    refine ok_gP fl_RX11_10 rfl (dd TX11_feed_0 15 rfl) (fun v8 => ?_)
    refine ok_iload_n (dd TX11_feed_0 16 rfl) 3 rfl ?_
    refine ok_callVV (cn := 4) [.int p2] [] (fun b9 => C_X4_append Γ b9 p2) rfl cy_X4_append ml_RX11_53 im_X4_append se_X4_append (by decide) (Nat.le_of_ble_eq_true rfl) rfl (dd TX11_feed_0 17 rfl) ?_
    refine ok_aload_n (dd TX11_feed_0 18 rfl) 0 rfl ?_
    refine ok_gP fl_RX11_10 rfl (dd TX11_feed_0 19 rfl) (fun v10 => ?_)
    refine ok_iload (dd TX11_feed_0 20 rfl) 4 rfl ?_
    refine ok_callVV (cn := 4) [.int p3] [] (fun b11 => C_X4_append Γ b11 p3) rfl cy_X4_append ml_RX11_53 im_X4_append se_X4_append (by decide) (Nat.le_of_ble_eq_true rfl) rfl (dd TX11_feed_0 21 rfl) ?_
    refine ok_aload_n (dd TX11_feed_0 22 rfl) 0 rfl ?_
    refine ok_gP fl_RX11_10 rfl (dd TX11_feed_0 23 rfl) (fun v12 => ?_)
    refine ok_iload (dd TX11_feed_0 24 rfl) 5 rfl ?_
    refine ok_callVV (cn := 4) [.int p4] [] (fun b13 => C_X4_append Γ b13 p4) rfl cy_X4_append ml_RX11_53 im_X4_append se_X4_append (by decide) (Nat.le_of_ble_eq_true rfl) rfl (dd TX11_feed_0 25 rfl) ?_
    refine ok_aload_n (dd TX11_feed_0 26 rfl) 0 rfl ?_
    refine ok_gP fl_RX11_10 rfl (dd TX11_feed_0 27 rfl) (fun v14 => ?_)
    refine ok_gI fl_RX11_57 rfl (dd TX11_feed_0 28 rfl) (fun v15 => ?_)
    exact ok_ireturn (dd TX11_feed_0 29 rfl) rfl
  · refine ok_iconst (v := (-1 : Int32)) (dd TX11_feed_0 4 rfl) (by decide) ?_
    exact ok_ireturn (dd TX11_feed_0 5 rfl) rfl
def F_X11_end (this : Nat) (p0 : Int32) : M Int32 := if p0 < 0 then rz (0 : Int32) else bn (gP 11 0 (some this)) fun v1 => bn (gI 4 1 v1) fun v2 => if p0 ≤ v2 then bn (gP 11 0 (some this)) fun v3 => bn (wI 4 1 v3 p0) fun _ => rz (1 : Int32) else rz (0 : Int32)
set_option maxRecDepth 100000 in
theorem C_X11_end (Γ : Gam) (this : Nat) (p0 : Int32) : Ct Γ mX11_end 0 vI [va_rf (some this), .int p0] (F_X11_end this p0) := by
  refine ct_in (lv := [(0, va_rf (some this)), (1, .int p0)]) (by decide) (by first | rfl | (simp only [lv_args, cat_rf]; rfl)) (by first | exact Nat.le_of_ble_eq_true rfl | (rw [lg_len]; simp only [List.map_cons, List.map_nil, cat_rf]; exact Nat.le_of_ble_eq_true rfl)) ?_
  unfold F_X11_end
  refine ok_iload_n (dd TX11_end_0 0 rfl) 1 rfl ?_
  refine ok_if_lt (tgt := 15) (dd TX11_end_0 1 rfl) (by decide) ?_ ?_
  · refine ok_iconst (v := (0 : Int32)) (dd TX11_end_0 7 rfl) (by decide) ?_
    exact ok_zreturn (dd TX11_end_0 8 rfl) rfl
  · refine ok_iload_n (dd TX11_end_0 2 rfl) 1 rfl ?_
    refine ok_aload_n (dd TX11_end_0 3 rfl) 0 rfl ?_
    refine ok_gP fl_RX11_10 rfl (dd TX11_end_0 4 rfl) (fun v1 => ?_)
    refine ok_gI fl_RX11_57 rfl (dd TX11_end_0 5 rfl) (fun v2 => ?_)
    refine ok_icmp_le (tgt := 17) (dd TX11_end_0 6 rfl) (by decide) ?_ ?_
    · refine ok_aload_n (dd TX11_end_0 9 rfl) 0 rfl ?_
      refine ok_gP fl_RX11_10 rfl (dd TX11_end_0 10 rfl) (fun v3 => ?_)
      refine ok_iload_n (dd TX11_end_0 11 rfl) 1 rfl ?_
      refine ok_wI fl_RX11_57 (Or.inl rfl) (tyX4_ok 1 (by decide)) (by decide) rfl (dd TX11_end_0 12 rfl) ?_
      refine ok_iconst (v := (1 : Int32)) (dd TX11_end_0 13 rfl) (by decide) ?_
      exact ok_zreturn (dd TX11_end_0 14 rfl) rfl
    · refine ok_iconst (v := (0 : Int32)) (dd TX11_end_0 7 rfl) (by decide) ?_
      exact ok_zreturn (dd TX11_end_0 8 rfl) rfl
def F_X11_fault (this : Nat) (p0 : Int32) : M Int32 := swF p0 [((0 : Int32), 28, bn (gP 11 0 (some this)) fun v1 => bn (gI 4 2 v1) fun v2 => rt v2), ((1 : Int32), 36, bn (gP 11 0 (some this)) fun v3 => bn (gI 4 3 v3) fun v4 => rt v4)] (rt (-1 : Int32))
set_option maxRecDepth 100000 in
theorem C_X11_fault (Γ : Gam) (this : Nat) (p0 : Int32) : Ct Γ mX11_fault 0 vI [va_rf (some this), .int p0] (F_X11_fault this p0) := by
  refine ct_in (lv := [(0, va_rf (some this)), (1, .int p0)]) (by decide) (by first | rfl | (simp only [lv_args, cat_rf]; rfl)) (by first | exact Nat.le_of_ble_eq_true rfl | (rw [lg_len]; simp only [List.map_cons, List.map_nil, cat_rf]; exact Nat.le_of_ble_eq_true rfl)) ?_
  unfold F_X11_fault
  refine ok_iload_n (dd TX11_fault_0 0 rfl) 1 rfl ?_
  refine ok_lsw (dt := 44) (dd TX11_fault_0 1 rfl) rfl (List.forall_mem_cons.mpr ⟨?_, List.forall_mem_cons.mpr ⟨?_, fun _ h => absurd h List.not_mem_nil⟩⟩) ?_
  · show Ok _ _ _ _ 28 _ _ (bn (gP 11 0 (some this)) fun v1 => bn (gI 4 2 v1) fun v2 => rt v2)
    refine ok_aload_n (dd TX11_fault_0 2 rfl) 0 rfl ?_
    refine ok_gP fl_RX11_10 rfl (dd TX11_fault_0 3 rfl) (fun v1 => ?_)
    refine ok_gI fl_RX11_68 rfl (dd TX11_fault_0 4 rfl) (fun v2 => ?_)
    exact ok_ireturn (dd TX11_fault_0 5 rfl) rfl
  · show Ok _ _ _ _ 36 _ _ (bn (gP 11 0 (some this)) fun v3 => bn (gI 4 3 v3) fun v4 => rt v4)
    refine ok_aload_n (dd TX11_fault_0 6 rfl) 0 rfl ?_
    refine ok_gP fl_RX11_10 rfl (dd TX11_fault_0 7 rfl) (fun v3 => ?_)
    refine ok_gI fl_RX11_71 rfl (dd TX11_fault_0 8 rfl) (fun v4 => ?_)
    exact ok_ireturn (dd TX11_fault_0 9 rfl) rfl
  · show Ok _ _ _ _ 44 _ _ (rt (-1 : Int32))
    refine ok_iconst (v := (-1 : Int32)) (dd TX11_fault_0 10 rfl) (by decide) ?_
    exact ok_ireturn (dd TX11_fault_0 11 rfl) rfl
def F_X11_member (this : Nat) : M Int32 := bn (gP 11 3 (some this)) fun v1 => bn (pRc 13 v1) fun b2 => bn (F_Jx4a65c_size_8abf5 b2) fun v3 => if v3 < (12 : Int32) then bn (gP 11 3 (some this)) fun v4 => bn (newO 1 5) fun r5 => bn (pRc 1 r5) fun b6 => bn (F_X1_init b6) fun _ => bn (pRc 13 v4) fun b7 => bn (F_Jx4a65c_add_9ea2d b7 r5) fun v8 => bn (gP 11 3 (some this)) fun v9 => bn (pRc 13 v9) fun b10 => bn (F_Jx4a65c_size_8abf5 b10) fun v11 => rt (v11 - (1 : Int32)) else rt (-1 : Int32)
set_option maxRecDepth 100000 in
theorem C_X11_member (Γ : Gam) (this : Nat) : Ct Γ mX11_member 7 vI [va_rf (some this)] (F_X11_member this) := by
  refine ct_in (lv := [(0, va_rf (some this))]) (by decide) (by first | rfl | (simp only [lv_args, cat_rf]; rfl)) (by first | exact Nat.le_of_ble_eq_true rfl | (rw [lg_len]; simp only [List.map_cons, List.map_nil, cat_rf]; exact Nat.le_of_ble_eq_true rfl)) ?_
  unfold F_X11_member
  refine ok_aload_n (dd TX11_member_0 0 rfl) 0 rfl ?_
  refine ok_gP fl_RX11_33 rfl (dd TX11_member_0 1 rfl) (fun v1 => ?_)
  refine ok_callVI (cn := 13) [] [] (fun b2 => C_Jx4a65c_size_8abf5 Γ b2) rfl cy_Jx4a65c_size_8abf5 ml_RX11_85 im_Jx4a65c_size_8abf5 se_Jx4a65c_size_8abf5 (by decide) (Nat.le_of_ble_eq_true rfl) rfl (dd TX11_member_0 2 rfl) (fun v3 => ?_)
  refine ok_bipush (v := (12 : Int32)) (dd TX11_member_0 3 rfl) (by decide) ?_
  refine ok_icmp_lt (tgt := 14) (dd TX11_member_0 4 rfl) (by decide) ?_ ?_
  · refine ok_aload_n (dd TX11_member_0 7 rfl) 0 rfl ?_
    refine ok_gP fl_RX11_33 rfl (dd TX11_member_0 8 rfl) (fun v4 => ?_)
    refine ok_newO cf_1 tyX1 tyX1_ok df_1 cl_RX11_89 ib_1 in_1 (dd TX11_member_0 9 rfl) (fun r5 => ?_)
    refine ok_dup (dd TX11_member_0 10 rfl) (by first | rfl | exact cat_rf _) ?_
    refine ok_callIN (cn := 1) [] [va_rf r5, va_rf v4] (fun b6 => C_X1_init Γ b6) cy_X1_init rfl rfl nl_RX11_91 im_X1_init (by decide) (Nat.le_of_ble_eq_true rfl) rfl (dd TX11_member_0 11 rfl) ?_
    refine ok_callVI (cn := 13) [va_rf r5] [] (fun b7 => C_Jx4a65c_add_9ea2d Γ b7 r5) rfl cy_Jx4a65c_add_9ea2d ml_RX11_92 im_Jx4a65c_add_9ea2d se_Jx4a65c_add_9ea2d (by decide) (Nat.le_of_ble_eq_true rfl) rfl (dd TX11_member_0 12 rfl) (fun v8 => ?_)
    refine ok_pop (dd TX11_member_0 13 rfl) (by first | rfl | exact cat_rf _) ?_
    refine ok_aload_n (dd TX11_member_0 14 rfl) 0 rfl ?_
    refine ok_gP fl_RX11_33 rfl (dd TX11_member_0 15 rfl) (fun v9 => ?_)
    refine ok_callVI (cn := 13) [] [] (fun b10 => C_Jx4a65c_size_8abf5 Γ b10) rfl cy_Jx4a65c_size_8abf5 ml_RX11_85 im_Jx4a65c_size_8abf5 se_Jx4a65c_size_8abf5 (by decide) (Nat.le_of_ble_eq_true rfl) rfl (dd TX11_member_0 16 rfl) (fun v11 => ?_)
    refine ok_iconst (v := (1 : Int32)) (dd TX11_member_0 17 rfl) (by decide) ?_
    refine ok_isub (dd TX11_member_0 18 rfl) ?_
    exact ok_ireturn (dd TX11_member_0 19 rfl) rfl
  · refine ok_iconst (v := (-1 : Int32)) (dd TX11_member_0 5 rfl) (by decide) ?_
    exact ok_ireturn (dd TX11_member_0 6 rfl) rfl
def F_X11_isMonth (p0 : Int32) : M Int32 := if p0 < 0 then rz (0 : Int32) else if (6 : Int32) ≤ p0 then rz (0 : Int32) else rz (1 : Int32)
set_option maxRecDepth 100000 in
theorem C_X11_isMonth (Γ : Gam) (p0 : Int32) : Ct Γ mX11_isMonth 0 vI [.int p0] (F_X11_isMonth p0) := by
  refine ct_in (lv := [(0, .int p0)]) (by decide) (by first | rfl | (simp only [lv_args, cat_rf]; rfl)) (by first | exact Nat.le_of_ble_eq_true rfl | (rw [lg_len]; simp only [List.map_cons, List.map_nil, cat_rf]; exact Nat.le_of_ble_eq_true rfl)) ?_
  unfold F_X11_isMonth
  refine ok_iload_n (dd TX11_isMonth_0 0 rfl) 0 rfl ?_
  refine ok_if_lt (tgt := 14) (dd TX11_isMonth_0 1 rfl) (by decide) ?_ ?_
  · refine ok_iconst (v := (0 : Int32)) (dd TX11_isMonth_0 7 rfl) (by decide) ?_
    exact ok_zreturn (dd TX11_isMonth_0 8 rfl) rfl
  · refine ok_iload_n (dd TX11_isMonth_0 2 rfl) 0 rfl ?_
    refine ok_bipush (v := (6 : Int32)) (dd TX11_isMonth_0 3 rfl) (by decide) ?_
    refine ok_icmp_ge (tgt := 14) (dd TX11_isMonth_0 4 rfl) (by decide) ?_ ?_
    · refine ok_iconst (v := (0 : Int32)) (dd TX11_isMonth_0 7 rfl) (by decide) ?_
      exact ok_zreturn (dd TX11_isMonth_0 8 rfl) rfl
    · refine ok_iconst (v := (1 : Int32)) (dd TX11_isMonth_0 5 rfl) (by decide) ?_
      refine ok_goto (tgt := 15) (dd TX11_isMonth_0 6 rfl) (by decide) ?_
      exact ok_zreturn (dd TX11_isMonth_0 8 rfl) rfl
def F_X11_isPrice (p0 : Int32) : M Int32 := if p0 < (1 : Int32) then rz (0 : Int32) else if (10000 : Int32) < p0 then rz (0 : Int32) else rz (1 : Int32)
set_option maxRecDepth 100000 in
theorem C_X11_isPrice (Γ : Gam) (p0 : Int32) : Ct Γ mX11_isPrice 0 vI [.int p0] (F_X11_isPrice p0) := by
  refine ct_in (lv := [(0, .int p0)]) (by decide) (by first | rfl | (simp only [lv_args, cat_rf]; rfl)) (by first | exact Nat.le_of_ble_eq_true rfl | (rw [lg_len]; simp only [List.map_cons, List.map_nil, cat_rf]; exact Nat.le_of_ble_eq_true rfl)) ?_
  unfold F_X11_isPrice
  refine ok_iload_n (dd TX11_isPrice_0 0 rfl) 0 rfl ?_
  refine ok_iconst (v := (1 : Int32)) (dd TX11_isPrice_0 1 rfl) (by decide) ?_
  refine ok_icmp_lt (tgt := 16) (dd TX11_isPrice_0 2 rfl) (by decide) ?_ ?_
  · refine ok_iconst (v := (0 : Int32)) (dd TX11_isPrice_0 8 rfl) (by decide) ?_
    exact ok_zreturn (dd TX11_isPrice_0 9 rfl) rfl
  · refine ok_iload_n (dd TX11_isPrice_0 3 rfl) 0 rfl ?_
    refine ok_sipush (v := (10000 : Int32)) (dd TX11_isPrice_0 4 rfl) (by decide) ?_
    refine ok_icmp_gt (tgt := 16) (dd TX11_isPrice_0 5 rfl) (by decide) ?_ ?_
    · refine ok_iconst (v := (0 : Int32)) (dd TX11_isPrice_0 8 rfl) (by decide) ?_
      exact ok_zreturn (dd TX11_isPrice_0 9 rfl) rfl
    · refine ok_iconst (v := (1 : Int32)) (dd TX11_isPrice_0 6 rfl) (by decide) ?_
      refine ok_goto (tgt := 17) (dd TX11_isPrice_0 7 rfl) (by decide) ?_
      exact ok_zreturn (dd TX11_isPrice_0 9 rfl) rfl
def F_X11_isOver (this : Nat) (p0 : Int32) : M Int32 := if p0 < 0 then rz (0 : Int32) else bn (gP 11 7 (some this)) fun v1 => bn (pRc 13 v1) fun b2 => bn (F_Jx4a65c_size_8abf5 b2) fun v3 => if v3 ≤ p0 then rz (0 : Int32) else rz (1 : Int32)
set_option maxRecDepth 100000 in
theorem C_X11_isOver (Γ : Gam) (this : Nat) (p0 : Int32) : Ct Γ mX11_isOver 1 vI [va_rf (some this), .int p0] (F_X11_isOver this p0) := by
  refine ct_in (lv := [(0, va_rf (some this)), (1, .int p0)]) (by decide) (by first | rfl | (simp only [lv_args, cat_rf]; rfl)) (by first | exact Nat.le_of_ble_eq_true rfl | (rw [lg_len]; simp only [List.map_cons, List.map_nil, cat_rf]; exact Nat.le_of_ble_eq_true rfl)) ?_
  unfold F_X11_isOver
  refine ok_iload_n (dd TX11_isOver_0 0 rfl) 1 rfl ?_
  refine ok_if_lt (tgt := 19) (dd TX11_isOver_0 1 rfl) (by decide) ?_ ?_
  · refine ok_iconst (v := (0 : Int32)) (dd TX11_isOver_0 9 rfl) (by decide) ?_
    exact ok_zreturn (dd TX11_isOver_0 10 rfl) rfl
  · refine ok_iload_n (dd TX11_isOver_0 2 rfl) 1 rfl ?_
    refine ok_aload_n (dd TX11_isOver_0 3 rfl) 0 rfl ?_
    refine ok_gP fl_RX11_46 rfl (dd TX11_isOver_0 4 rfl) (fun v1 => ?_)
    refine ok_callVI (cn := 13) [] [.int p0] (fun b2 => C_Jx4a65c_size_8abf5 Γ b2) rfl cy_Jx4a65c_size_8abf5 ml_RX11_85 im_Jx4a65c_size_8abf5 se_Jx4a65c_size_8abf5 (by decide) (Nat.le_of_ble_eq_true rfl) rfl (dd TX11_isOver_0 5 rfl) (fun v3 => ?_)
    refine ok_icmp_ge (tgt := 19) (dd TX11_isOver_0 6 rfl) (by decide) ?_ ?_
    · refine ok_iconst (v := (0 : Int32)) (dd TX11_isOver_0 9 rfl) (by decide) ?_
      exact ok_zreturn (dd TX11_isOver_0 10 rfl) rfl
    · refine ok_iconst (v := (1 : Int32)) (dd TX11_isOver_0 7 rfl) (by decide) ?_
      refine ok_goto (tgt := 20) (dd TX11_isOver_0 8 rfl) (by decide) ?_
      exact ok_zreturn (dd TX11_isOver_0 10 rfl) rfl
def F_X11_isKnown (this : Nat) (p0 : Int32) (p1 : Int32) : M Int32 := bn (pRc 11 (some this)) fun b1 => bn (F_X11_isOver b1 p0) fun v2 => if v2 = 0 then rz (0 : Int32) else if p1 < p0 then rz (0 : Int32) else bn (gI 11 8 (some this)) fun v3 => if v3 < p1 then rz (0 : Int32) else rz (1 : Int32)
set_option maxRecDepth 100000 in
theorem C_X11_isKnown (Γ : Gam) (this : Nat) (p0 : Int32) (p1 : Int32) : Ct Γ mX11_isKnown 2 vI [va_rf (some this), .int p0, .int p1] (F_X11_isKnown this p0 p1) := by
  refine ct_in (lv := [(0, va_rf (some this)), (1, .int p0), (2, .int p1)]) (by decide) (by first | rfl | (simp only [lv_args, cat_rf]; rfl)) (by first | exact Nat.le_of_ble_eq_true rfl | (rw [lg_len]; simp only [List.map_cons, List.map_nil, cat_rf]; exact Nat.le_of_ble_eq_true rfl)) ?_
  unfold F_X11_isKnown
  refine ok_aload_n (dd TX11_isKnown_0 0 rfl) 0 rfl ?_
  refine ok_iload_n (dd TX11_isKnown_0 1 rfl) 1 rfl ?_
  refine ok_callVI (cn := 11) [.int p0] [] (fun b1 => C_X11_isOver Γ b1 p0) rfl cy_X11_isOver ml_RX11_332 im_X11_isOver se_X11_isOver (by decide) (Nat.le_of_ble_eq_true rfl) rfl (dd TX11_isKnown_0 2 rfl) (fun v2 => ?_)
  refine ok_if_eq (tgt := 25) (dd TX11_isKnown_0 3 rfl) (by decide) ?_ ?_
  · refine ok_iconst (v := (0 : Int32)) (dd TX11_isKnown_0 13 rfl) (by decide) ?_
    exact ok_zreturn (dd TX11_isKnown_0 14 rfl) rfl
  · refine ok_iload_n (dd TX11_isKnown_0 4 rfl) 2 rfl ?_
    refine ok_iload_n (dd TX11_isKnown_0 5 rfl) 1 rfl ?_
    refine ok_icmp_lt (tgt := 25) (dd TX11_isKnown_0 6 rfl) (by decide) ?_ ?_
    · refine ok_iconst (v := (0 : Int32)) (dd TX11_isKnown_0 13 rfl) (by decide) ?_
      exact ok_zreturn (dd TX11_isKnown_0 14 rfl) rfl
    · refine ok_iload_n (dd TX11_isKnown_0 7 rfl) 2 rfl ?_
      refine ok_aload_n (dd TX11_isKnown_0 8 rfl) 0 rfl ?_
      refine ok_gI fl_RX11_186 rfl (dd TX11_isKnown_0 9 rfl) (fun v3 => ?_)
      refine ok_icmp_gt (tgt := 25) (dd TX11_isKnown_0 10 rfl) (by decide) ?_ ?_
      · refine ok_iconst (v := (0 : Int32)) (dd TX11_isKnown_0 13 rfl) (by decide) ?_
        exact ok_zreturn (dd TX11_isKnown_0 14 rfl) rfl
      · refine ok_iconst (v := (1 : Int32)) (dd TX11_isKnown_0 11 rfl) (by decide) ?_
        refine ok_goto (tgt := 26) (dd TX11_isKnown_0 12 rfl) (by decide) ?_
        exact ok_zreturn (dd TX11_isKnown_0 14 rfl) rfl
def F_X11_memberOf (this : Nat) (p0 : Int32) : M (Option Nat) := if p0 < 0 then rt none else bn (gP 11 3 (some this)) fun v1 => bn (pRc 13 v1) fun b2 => bn (F_Jx4a65c_size_8abf5 b2) fun v3 => if v3 ≤ p0 then rt none else bn (gP 11 3 (some this)) fun v4 => bn (pRc 13 v4) fun b5 => bn (F_Jx4a65c_get_915e3 b5 p0) fun v6 => bn (cst 1 v6) fun _ => rt v6
set_option maxRecDepth 100000 in
theorem C_X11_memberOf (Γ : Gam) (this : Nat) (p0 : Int32) : Ct Γ mX11_memberOf 3 vP [va_rf (some this), .int p0] (F_X11_memberOf this p0) := by
  refine ct_in (lv := [(0, va_rf (some this)), (1, .int p0)]) (by decide) (by first | rfl | (simp only [lv_args, cat_rf]; rfl)) (by first | exact Nat.le_of_ble_eq_true rfl | (rw [lg_len]; simp only [List.map_cons, List.map_nil, cat_rf]; exact Nat.le_of_ble_eq_true rfl)) ?_
  unfold F_X11_memberOf
  refine ok_iload_n (dd TX11_memberOf_0 0 rfl) 1 rfl ?_
  refine ok_if_lt (tgt := 29) (dd TX11_memberOf_0 1 rfl) (by decide) ?_ ?_
  · refine ok_null (dd TX11_memberOf_0 13 rfl) ?_
    exact ok_areturn (dd TX11_memberOf_0 14 rfl) rfl (by first | exact Or.inl ⟨_, rfl⟩ | exact Or.inr ⟨_, rfl⟩)
  · refine ok_iload_n (dd TX11_memberOf_0 2 rfl) 1 rfl ?_
    refine ok_aload_n (dd TX11_memberOf_0 3 rfl) 0 rfl ?_
    refine ok_gP fl_RX11_33 rfl (dd TX11_memberOf_0 4 rfl) (fun v1 => ?_)
    refine ok_callVI (cn := 13) [] [.int p0] (fun b2 => C_Jx4a65c_size_8abf5 Γ b2) rfl cy_Jx4a65c_size_8abf5 ml_RX11_85 im_Jx4a65c_size_8abf5 se_Jx4a65c_size_8abf5 (by decide) (Nat.le_of_ble_eq_true rfl) rfl (dd TX11_memberOf_0 5 rfl) (fun v3 => ?_)
    refine ok_icmp_ge (tgt := 29) (dd TX11_memberOf_0 6 rfl) (by decide) ?_ ?_
    · refine ok_null (dd TX11_memberOf_0 13 rfl) ?_
      exact ok_areturn (dd TX11_memberOf_0 14 rfl) rfl (by first | exact Or.inl ⟨_, rfl⟩ | exact Or.inr ⟨_, rfl⟩)
    · refine ok_aload_n (dd TX11_memberOf_0 7 rfl) 0 rfl ?_
      refine ok_gP fl_RX11_33 rfl (dd TX11_memberOf_0 8 rfl) (fun v4 => ?_)
      refine ok_iload_n (dd TX11_memberOf_0 9 rfl) 1 rfl ?_
      refine ok_callVR (cn := 13) [.int p0] [] (fun b5 => C_Jx4a65c_get_915e3 Γ b5 p0) rfl cy_Jx4a65c_get_915e3 ml_RX11_139 im_Jx4a65c_get_915e3 se_Jx4a65c_get_915e3 (by decide) (Nat.le_of_ble_eq_true rfl) rfl (dd TX11_memberOf_0 10 rfl) (fun v6 => ?_)
      refine ok_cst (cn := 1) rfl cl_RX11_89 (dd TX11_memberOf_0 11 rfl) ?_
      refine ok_goto (tgt := 30) (dd TX11_memberOf_0 12 rfl) (by decide) ?_
      exact ok_areturn (dd TX11_memberOf_0 14 rfl) rfl (by first | exact Or.inl ⟨_, rfl⟩ | exact Or.inr ⟨_, rfl⟩)
def F_X11_tradeOf (this : Nat) (p0 : Int32) : M (Option Nat) := if p0 < 0 then rt none else bn (gP 11 4 (some this)) fun v1 => bn (pRc 13 v1) fun b2 => bn (F_Jx4a65c_size_8abf5 b2) fun v3 => if v3 ≤ p0 then rt none else bn (gP 11 4 (some this)) fun v4 => bn (pRc 13 v4) fun b5 => bn (F_Jx4a65c_get_915e3 b5 p0) fun v6 => bn (cst 10 v6) fun _ => rt v6
set_option maxRecDepth 100000 in
theorem C_X11_tradeOf (Γ : Gam) (this : Nat) (p0 : Int32) : Ct Γ mX11_tradeOf 3 vP [va_rf (some this), .int p0] (F_X11_tradeOf this p0) := by
  refine ct_in (lv := [(0, va_rf (some this)), (1, .int p0)]) (by decide) (by first | rfl | (simp only [lv_args, cat_rf]; rfl)) (by first | exact Nat.le_of_ble_eq_true rfl | (rw [lg_len]; simp only [List.map_cons, List.map_nil, cat_rf]; exact Nat.le_of_ble_eq_true rfl)) ?_
  unfold F_X11_tradeOf
  refine ok_iload_n (dd TX11_tradeOf_0 0 rfl) 1 rfl ?_
  refine ok_if_lt (tgt := 29) (dd TX11_tradeOf_0 1 rfl) (by decide) ?_ ?_
  · refine ok_null (dd TX11_tradeOf_0 13 rfl) ?_
    exact ok_areturn (dd TX11_tradeOf_0 14 rfl) rfl (by first | exact Or.inl ⟨_, rfl⟩ | exact Or.inr ⟨_, rfl⟩)
  · refine ok_iload_n (dd TX11_tradeOf_0 2 rfl) 1 rfl ?_
    refine ok_aload_n (dd TX11_tradeOf_0 3 rfl) 0 rfl ?_
    refine ok_gP fl_RX11_37 rfl (dd TX11_tradeOf_0 4 rfl) (fun v1 => ?_)
    refine ok_callVI (cn := 13) [] [.int p0] (fun b2 => C_Jx4a65c_size_8abf5 Γ b2) rfl cy_Jx4a65c_size_8abf5 ml_RX11_85 im_Jx4a65c_size_8abf5 se_Jx4a65c_size_8abf5 (by decide) (Nat.le_of_ble_eq_true rfl) rfl (dd TX11_tradeOf_0 5 rfl) (fun v3 => ?_)
    refine ok_icmp_ge (tgt := 29) (dd TX11_tradeOf_0 6 rfl) (by decide) ?_ ?_
    · refine ok_null (dd TX11_tradeOf_0 13 rfl) ?_
      exact ok_areturn (dd TX11_tradeOf_0 14 rfl) rfl (by first | exact Or.inl ⟨_, rfl⟩ | exact Or.inr ⟨_, rfl⟩)
    · refine ok_aload_n (dd TX11_tradeOf_0 7 rfl) 0 rfl ?_
      refine ok_gP fl_RX11_37 rfl (dd TX11_tradeOf_0 8 rfl) (fun v4 => ?_)
      refine ok_iload_n (dd TX11_tradeOf_0 9 rfl) 1 rfl ?_
      refine ok_callVR (cn := 13) [.int p0] [] (fun b5 => C_Jx4a65c_get_915e3 Γ b5 p0) rfl cy_Jx4a65c_get_915e3 ml_RX11_139 im_Jx4a65c_get_915e3 se_Jx4a65c_get_915e3 (by decide) (Nat.le_of_ble_eq_true rfl) rfl (dd TX11_tradeOf_0 10 rfl) (fun v6 => ?_)
      refine ok_cst (cn := 10) rfl cl_RX11_157 (dd TX11_tradeOf_0 11 rfl) ?_
      refine ok_goto (tgt := 30) (dd TX11_tradeOf_0 12 rfl) (by decide) ?_
      exact ok_areturn (dd TX11_tradeOf_0 14 rfl) rfl (by first | exact Or.inl ⟨_, rfl⟩ | exact Or.inr ⟨_, rfl⟩)
def F_X11_receiptOf (this : Nat) (p0 : Int32) : M (Option Nat) := if p0 < 0 then rt none else bn (gP 11 5 (some this)) fun v1 => bn (pRc 13 v1) fun b2 => bn (F_Jx4a65c_size_8abf5 b2) fun v3 => if v3 ≤ p0 then rt none else bn (gP 11 5 (some this)) fun v4 => bn (pRc 13 v4) fun b5 => bn (F_Jx4a65c_get_915e3 b5 p0) fun v6 => bn (cst 5 v6) fun _ => rt v6
set_option maxRecDepth 100000 in
theorem C_X11_receiptOf (Γ : Gam) (this : Nat) (p0 : Int32) : Ct Γ mX11_receiptOf 3 vP [va_rf (some this), .int p0] (F_X11_receiptOf this p0) := by
  refine ct_in (lv := [(0, va_rf (some this)), (1, .int p0)]) (by decide) (by first | rfl | (simp only [lv_args, cat_rf]; rfl)) (by first | exact Nat.le_of_ble_eq_true rfl | (rw [lg_len]; simp only [List.map_cons, List.map_nil, cat_rf]; exact Nat.le_of_ble_eq_true rfl)) ?_
  unfold F_X11_receiptOf
  refine ok_iload_n (dd TX11_receiptOf_0 0 rfl) 1 rfl ?_
  refine ok_if_lt (tgt := 29) (dd TX11_receiptOf_0 1 rfl) (by decide) ?_ ?_
  · refine ok_null (dd TX11_receiptOf_0 13 rfl) ?_
    exact ok_areturn (dd TX11_receiptOf_0 14 rfl) rfl (by first | exact Or.inl ⟨_, rfl⟩ | exact Or.inr ⟨_, rfl⟩)
  · refine ok_iload_n (dd TX11_receiptOf_0 2 rfl) 1 rfl ?_
    refine ok_aload_n (dd TX11_receiptOf_0 3 rfl) 0 rfl ?_
    refine ok_gP fl_RX11_40 rfl (dd TX11_receiptOf_0 4 rfl) (fun v1 => ?_)
    refine ok_callVI (cn := 13) [] [.int p0] (fun b2 => C_Jx4a65c_size_8abf5 Γ b2) rfl cy_Jx4a65c_size_8abf5 ml_RX11_85 im_Jx4a65c_size_8abf5 se_Jx4a65c_size_8abf5 (by decide) (Nat.le_of_ble_eq_true rfl) rfl (dd TX11_receiptOf_0 5 rfl) (fun v3 => ?_)
    refine ok_icmp_ge (tgt := 29) (dd TX11_receiptOf_0 6 rfl) (by decide) ?_ ?_
    · refine ok_null (dd TX11_receiptOf_0 13 rfl) ?_
      exact ok_areturn (dd TX11_receiptOf_0 14 rfl) rfl (by first | exact Or.inl ⟨_, rfl⟩ | exact Or.inr ⟨_, rfl⟩)
    · refine ok_aload_n (dd TX11_receiptOf_0 7 rfl) 0 rfl ?_
      refine ok_gP fl_RX11_40 rfl (dd TX11_receiptOf_0 8 rfl) (fun v4 => ?_)
      refine ok_iload_n (dd TX11_receiptOf_0 9 rfl) 1 rfl ?_
      refine ok_callVR (cn := 13) [.int p0] [] (fun b5 => C_Jx4a65c_get_915e3 Γ b5 p0) rfl cy_Jx4a65c_get_915e3 ml_RX11_139 im_Jx4a65c_get_915e3 se_Jx4a65c_get_915e3 (by decide) (Nat.le_of_ble_eq_true rfl) rfl (dd TX11_receiptOf_0 10 rfl) (fun v6 => ?_)
      refine ok_cst (cn := 5) rfl cl_RX11_253 (dd TX11_receiptOf_0 11 rfl) ?_
      refine ok_goto (tgt := 30) (dd TX11_receiptOf_0 12 rfl) (by decide) ?_
      exact ok_areturn (dd TX11_receiptOf_0 14 rfl) rfl (by first | exact Or.inl ⟨_, rfl⟩ | exact Or.inr ⟨_, rfl⟩)
def F_X11_noticeOf (this : Nat) (p0 : Int32) : M (Option Nat) := if p0 < 0 then rt none else bn (gP 11 6 (some this)) fun v1 => bn (pRc 13 v1) fun b2 => bn (F_Jx4a65c_size_8abf5 b2) fun v3 => if v3 ≤ p0 then rt none else bn (gP 11 6 (some this)) fun v4 => bn (pRc 13 v4) fun b5 => bn (F_Jx4a65c_get_915e3 b5 p0) fun v6 => bn (cst 3 v6) fun _ => rt v6
set_option maxRecDepth 100000 in
theorem C_X11_noticeOf (Γ : Gam) (this : Nat) (p0 : Int32) : Ct Γ mX11_noticeOf 3 vP [va_rf (some this), .int p0] (F_X11_noticeOf this p0) := by
  refine ct_in (lv := [(0, va_rf (some this)), (1, .int p0)]) (by decide) (by first | rfl | (simp only [lv_args, cat_rf]; rfl)) (by first | exact Nat.le_of_ble_eq_true rfl | (rw [lg_len]; simp only [List.map_cons, List.map_nil, cat_rf]; exact Nat.le_of_ble_eq_true rfl)) ?_
  unfold F_X11_noticeOf
  refine ok_iload_n (dd TX11_noticeOf_0 0 rfl) 1 rfl ?_
  refine ok_if_lt (tgt := 29) (dd TX11_noticeOf_0 1 rfl) (by decide) ?_ ?_
  · refine ok_null (dd TX11_noticeOf_0 13 rfl) ?_
    exact ok_areturn (dd TX11_noticeOf_0 14 rfl) rfl (by first | exact Or.inl ⟨_, rfl⟩ | exact Or.inr ⟨_, rfl⟩)
  · refine ok_iload_n (dd TX11_noticeOf_0 2 rfl) 1 rfl ?_
    refine ok_aload_n (dd TX11_noticeOf_0 3 rfl) 0 rfl ?_
    refine ok_gP fl_RX11_43 rfl (dd TX11_noticeOf_0 4 rfl) (fun v1 => ?_)
    refine ok_callVI (cn := 13) [] [.int p0] (fun b2 => C_Jx4a65c_size_8abf5 Γ b2) rfl cy_Jx4a65c_size_8abf5 ml_RX11_85 im_Jx4a65c_size_8abf5 se_Jx4a65c_size_8abf5 (by decide) (Nat.le_of_ble_eq_true rfl) rfl (dd TX11_noticeOf_0 5 rfl) (fun v3 => ?_)
    refine ok_icmp_ge (tgt := 29) (dd TX11_noticeOf_0 6 rfl) (by decide) ?_ ?_
    · refine ok_null (dd TX11_noticeOf_0 13 rfl) ?_
      exact ok_areturn (dd TX11_noticeOf_0 14 rfl) rfl (by first | exact Or.inl ⟨_, rfl⟩ | exact Or.inr ⟨_, rfl⟩)
    · refine ok_aload_n (dd TX11_noticeOf_0 7 rfl) 0 rfl ?_
      refine ok_gP fl_RX11_43 rfl (dd TX11_noticeOf_0 8 rfl) (fun v4 => ?_)
      refine ok_iload_n (dd TX11_noticeOf_0 9 rfl) 1 rfl ?_
      refine ok_callVR (cn := 13) [.int p0] [] (fun b5 => C_Jx4a65c_get_915e3 Γ b5 p0) rfl cy_Jx4a65c_get_915e3 ml_RX11_139 im_Jx4a65c_get_915e3 se_Jx4a65c_get_915e3 (by decide) (Nat.le_of_ble_eq_true rfl) rfl (dd TX11_noticeOf_0 10 rfl) (fun v6 => ?_)
      refine ok_cst (cn := 3) rfl cl_RX11_278 (dd TX11_noticeOf_0 11 rfl) ?_
      refine ok_goto (tgt := 30) (dd TX11_noticeOf_0 12 rfl) (by decide) ?_
      exact ok_areturn (dd TX11_noticeOf_0 14 rfl) rfl (by first | exact Or.inl ⟨_, rfl⟩ | exact Or.inr ⟨_, rfl⟩)
def F_X11_heldNotice (this : Nat) (p0 : Int32) : M (Option Nat) := bn (pRc 11 (some this)) fun b1 => bn (F_X11_noticeOf b1 p0) fun v2 => if v2 = none then rt none else bn (gI 3 5 v2) fun v3 => if ¬ v3 = (1 : Int32) then rt none else rt v2
set_option maxRecDepth 100000 in
theorem C_X11_heldNotice (Γ : Gam) (this : Nat) (p0 : Int32) : Ct Γ mX11_heldNotice 4 vP [va_rf (some this), .int p0] (F_X11_heldNotice this p0) := by
  refine ct_in (lv := [(0, va_rf (some this)), (1, .int p0)]) (by decide) (by first | rfl | (simp only [lv_args, cat_rf]; rfl)) (by first | exact Nat.le_of_ble_eq_true rfl | (rw [lg_len]; simp only [List.map_cons, List.map_nil, cat_rf]; exact Nat.le_of_ble_eq_true rfl)) ?_
  unfold F_X11_heldNotice
  refine ok_aload_n (dd TX11_heldNotice_0 0 rfl) 0 rfl ?_
  refine ok_iload_n (dd TX11_heldNotice_0 1 rfl) 1 rfl ?_
  refine ok_callVR (cn := 11) [.int p0] [] (fun b1 => C_X11_noticeOf Γ b1 p0) rfl cy_X11_noticeOf ml_RX11_314 im_X11_noticeOf se_X11_noticeOf (by decide) (Nat.le_of_ble_eq_true rfl) rfl (dd TX11_heldNotice_0 2 rfl) (fun v2 => ?_)
  refine ok_astore_n (lv' := [(2, va_rf v2), (0, va_rf (some this)), (1, .int p0)]) (dd TX11_heldNotice_0 3 rfl) (by decide) (by first | rfl | (simp only [List.filter, cat_rf]; rfl)) ?_
  refine ok_aload_n (dd TX11_heldNotice_0 4 rfl) 0 rfl ?_
  refine ok_ifnull (tgt := 22) (dd TX11_heldNotice_0 5 rfl) (by decide) ?_ ?_
  · refine ok_null (dd TX11_heldNotice_0 12 rfl) ?_
    exact ok_areturn (dd TX11_heldNotice_0 13 rfl) rfl (by first | exact Or.inl ⟨_, rfl⟩ | exact Or.inr ⟨_, rfl⟩)
  · refine ok_aload_n (dd TX11_heldNotice_0 6 rfl) 0 rfl ?_
    refine ok_gI fl_RX11_305 rfl (dd TX11_heldNotice_0 7 rfl) (fun v3 => ?_)
    refine ok_iconst (v := (1 : Int32)) (dd TX11_heldNotice_0 8 rfl) (by decide) ?_
    refine ok_icmp_ne (tgt := 22) (dd TX11_heldNotice_0 9 rfl) (by decide) ?_ ?_
    · refine ok_null (dd TX11_heldNotice_0 12 rfl) ?_
      exact ok_areturn (dd TX11_heldNotice_0 13 rfl) rfl (by first | exact Or.inl ⟨_, rfl⟩ | exact Or.inr ⟨_, rfl⟩)
    · refine ok_aload_n (dd TX11_heldNotice_0 10 rfl) 0 rfl ?_
      refine ok_goto (tgt := 23) (dd TX11_heldNotice_0 11 rfl) (by decide) ?_
      exact ok_areturn (dd TX11_heldNotice_0 13 rfl) rfl (by first | exact Or.inl ⟨_, rfl⟩ | exact Or.inr ⟨_, rfl⟩)
def F_X11_inDefault (this : Nat) (p0 : Int32) : M Int32 := bn (pRc 11 (some this)) fun b1 => bn (F_X11_memberOf b1 p0) fun v2 => if v2 = none then rz (0 : Int32) else bn (gI 1 4 v2) fun v3 => if v3 = 0 then rz (0 : Int32) else rz (1 : Int32)
set_option maxRecDepth 100000 in
theorem C_X11_inDefault (Γ : Gam) (this : Nat) (p0 : Int32) : Ct Γ mX11_inDefault 4 vI [va_rf (some this), .int p0] (F_X11_inDefault this p0) := by
  refine ct_in (lv := [(0, va_rf (some this)), (1, .int p0)]) (by decide) (by first | rfl | (simp only [lv_args, cat_rf]; rfl)) (by first | exact Nat.le_of_ble_eq_true rfl | (rw [lg_len]; simp only [List.map_cons, List.map_nil, cat_rf]; exact Nat.le_of_ble_eq_true rfl)) ?_
  unfold F_X11_inDefault
  refine ok_aload_n (dd TX11_inDefault_0 0 rfl) 0 rfl ?_
  refine ok_iload_n (dd TX11_inDefault_0 1 rfl) 1 rfl ?_
  refine ok_callVR (cn := 11) [.int p0] [] (fun b1 => C_X11_memberOf Γ b1 p0) rfl cy_X11_memberOf ml_RX11_96 im_X11_memberOf se_X11_memberOf (by decide) (Nat.le_of_ble_eq_true rfl) rfl (dd TX11_inDefault_0 2 rfl) (fun v2 => ?_)
  refine ok_astore_n (lv' := [(2, va_rf v2), (0, va_rf (some this)), (1, .int p0)]) (dd TX11_inDefault_0 3 rfl) (by decide) (by first | rfl | (simp only [List.filter, cat_rf]; rfl)) ?_
  refine ok_aload_n (dd TX11_inDefault_0 4 rfl) 0 rfl ?_
  refine ok_ifnull (tgt := 21) (dd TX11_inDefault_0 5 rfl) (by decide) ?_ ?_
  · refine ok_iconst (v := (0 : Int32)) (dd TX11_inDefault_0 11 rfl) (by decide) ?_
    exact ok_zreturn (dd TX11_inDefault_0 12 rfl) rfl
  · refine ok_aload_n (dd TX11_inDefault_0 6 rfl) 0 rfl ?_
    refine ok_gZ fl_RX11_228 rfl (dd TX11_inDefault_0 7 rfl) (fun v3 => ?_)
    refine ok_if_eq (tgt := 21) (dd TX11_inDefault_0 8 rfl) (by decide) ?_ ?_
    · refine ok_iconst (v := (0 : Int32)) (dd TX11_inDefault_0 11 rfl) (by decide) ?_
      exact ok_zreturn (dd TX11_inDefault_0 12 rfl) rfl
    · refine ok_iconst (v := (1 : Int32)) (dd TX11_inDefault_0 9 rfl) (by decide) ?_
      refine ok_goto (tgt := 22) (dd TX11_inDefault_0 10 rfl) (by decide) ?_
      exact ok_zreturn (dd TX11_inDefault_0 12 rfl) rfl
def F_X11_allWaiting_L4 : Nat → Nat → Int32 → Int32 → M Int32
  | 0 => fun _ _ _ => fl
  | n + 1 => fun this x1 x2 => if (6 : Int32) ≤ x2 then rt x1 else bn (gP 11 2 (some this)) fun v1 => bn (lP 157 v1 x2) fun v2 => bn (gP 2 0 v2) fun v3 => bn (pRc 13 v3) fun b4 => bn (F_Jx4a65c_size_8abf5 b4) fun v5 => bn (gP 11 2 (some this)) fun v6 => bn (lP 157 v6 x2) fun v7 => bn (gP 2 1 v7) fun v8 => bn (pRc 13 v8) fun b9 => bn (F_Jx4a65c_size_8abf5 b9) fun v10 => F_X11_allWaiting_L4 n this (x1 + (v5 + v10)) (x2 + (1 : Int32))
set_option maxRecDepth 100000 in
theorem O_X11_allWaiting_L4 (Γ : Gam) (n : Nat) : ∀ (this : Nat) (x1 : Int32) (x2 : Int32), Ok Γ mX11_allWaiting 1 (qo Γ vI) 4 [(0, va_rf (some this)), (1, .int x1), (2, .int x2)] [] (F_X11_allWaiting_L4 n this x1 x2) := by
  induction n with
  | zero => intro this x1 x2; exact ok_fl
  | succ n ih =>
    intro this x1 x2
    rw [F_X11_allWaiting_L4]
    refine ok_iload_n (dd TX11_allWaiting_0 4 rfl) 2 rfl ?_
    refine ok_bipush (v := (6 : Int32)) (dd TX11_allWaiting_0 5 rfl) (by decide) ?_
    refine ok_icmp_ge (tgt := 44) (dd TX11_allWaiting_0 6 rfl) (by decide) ?_ ?_
    · refine ok_iload_n (dd TX11_allWaiting_0 25 rfl) 1 rfl ?_
      exact ok_ireturn (dd TX11_allWaiting_0 26 rfl) rfl
    · refine ok_iload_n (dd TX11_allWaiting_0 7 rfl) 1 rfl ?_
      refine ok_aload_n (dd TX11_allWaiting_0 8 rfl) 0 rfl ?_
      refine ok_gP fl_RX11_25 rfl (dd TX11_allWaiting_0 9 rfl) (fun v1 => ?_)
      refine ok_iload_n (dd TX11_allWaiting_0 10 rfl) 2 rfl ?_
      refine ok_lP5 (kd := 157) (by decide) rfl (dd TX11_allWaiting_0 11 rfl) (fun v2 => ?_)
      refine ok_gP fl_RX11_353 rfl (dd TX11_allWaiting_0 12 rfl) (fun v3 => ?_)
      refine ok_callVI (cn := 13) [] [.int x1] (fun b4 => C_Jx4a65c_size_8abf5 Γ b4) rfl cy_Jx4a65c_size_8abf5 ml_RX11_85 im_Jx4a65c_size_8abf5 se_Jx4a65c_size_8abf5 (by decide) (Nat.le_of_ble_eq_true rfl) rfl (dd TX11_allWaiting_0 13 rfl) (fun v5 => ?_)
      refine ok_aload_n (dd TX11_allWaiting_0 14 rfl) 0 rfl ?_
      refine ok_gP fl_RX11_25 rfl (dd TX11_allWaiting_0 15 rfl) (fun v6 => ?_)
      refine ok_iload_n (dd TX11_allWaiting_0 16 rfl) 2 rfl ?_
      refine ok_lP5 (kd := 157) (by decide) rfl (dd TX11_allWaiting_0 17 rfl) (fun v7 => ?_)
      refine ok_gP fl_RX11_356 rfl (dd TX11_allWaiting_0 18 rfl) (fun v8 => ?_)
      refine ok_callVI (cn := 13) [] [.int v5, .int x1] (fun b9 => C_Jx4a65c_size_8abf5 Γ b9) rfl cy_Jx4a65c_size_8abf5 ml_RX11_85 im_Jx4a65c_size_8abf5 se_Jx4a65c_size_8abf5 (by decide) (Nat.le_of_ble_eq_true rfl) rfl (dd TX11_allWaiting_0 19 rfl) (fun v10 => ?_)
      refine ok_iadd (dd TX11_allWaiting_0 20 rfl) ?_
      refine ok_iadd (dd TX11_allWaiting_0 21 rfl) ?_
      refine ok_istore_n (lv' := [(1, .int (x1 + (v5 + v10))), (0, va_rf (some this)), (2, .int x2)]) (dd TX11_allWaiting_0 22 rfl) (by decide) (by first | rfl | (simp only [List.filter, cat_rf]; rfl)) ?_
      refine ok_iinc (lv' := [(2, .int (x2 + (1 : Int32))), (1, .int (x1 + (v5 + v10))), (0, va_rf (some this))]) (dd TX11_allWaiting_0 23 rfl) 2 rfl (congrArg (fun q : Int32 => x2 + q) (show Int32.ofInt (1) = (1 : Int32) from by decide)) (by decide) (by first | rfl | (simp only [List.filter, cat_rf]; rfl)) ?_
      refine ok_goto (tgt := 4) (dd TX11_allWaiting_0 24 rfl) (by decide) ?_
      refine ok_sub [2, 1, 0] rfl ?_
      exact ih this (x1 + (v5 + v10)) (x2 + (1 : Int32))
def F_X11_allWaiting (this : Nat) : M Int32 := F_X11_allWaiting_L4 FU this (0 : Int32) (0 : Int32)
set_option maxRecDepth 100000 in
theorem C_X11_allWaiting (Γ : Gam) (this : Nat) : Ct Γ mX11_allWaiting 1 vI [va_rf (some this)] (F_X11_allWaiting this) := by
  refine ct_in (lv := [(0, va_rf (some this))]) (by decide) (by first | rfl | (simp only [lv_args, cat_rf]; rfl)) (by first | exact Nat.le_of_ble_eq_true rfl | (rw [lg_len]; simp only [List.map_cons, List.map_nil, cat_rf]; exact Nat.le_of_ble_eq_true rfl)) ?_
  unfold F_X11_allWaiting
  refine ok_iconst (v := (0 : Int32)) (dd TX11_allWaiting_0 0 rfl) (by decide) ?_
  refine ok_istore_n (lv' := [(1, .int (0 : Int32)), (0, va_rf (some this))]) (dd TX11_allWaiting_0 1 rfl) (by decide) (by first | rfl | (simp only [List.filter, cat_rf]; rfl)) ?_
  refine ok_iconst (v := (0 : Int32)) (dd TX11_allWaiting_0 2 rfl) (by decide) ?_
  refine ok_istore_n (lv' := [(2, .int (0 : Int32)), (1, .int (0 : Int32)), (0, va_rf (some this))]) (dd TX11_allWaiting_0 3 rfl) (by decide) (by first | rfl | (simp only [List.filter, cat_rf]; rfl)) ?_
  refine ok_sub [2, 1, 0] rfl ?_
  exact O_X11_allWaiting_L4 Γ FU this (0 : Int32) (0 : Int32)
def F_X11_allHeld_L39 (k4 : Nat → Int32 → Int32 → M Int32) (this : Nat) (x2 : Int32) (y0 : Int32) (y1 : Int32) : M Int32 := k4 this (y1 + y0) (x2 + (1 : Int32))
set_option maxRecDepth 100000 in
theorem O_X11_allHeld_L39 (Γ : Gam) (k4 : Nat → Int32 → Int32 → M Int32) (hk4 : ∀ (z0 : Nat) (z1 : Int32) (z2 : Int32), Ok Γ mX11_allHeld 3 (qo Γ vI) 4 [(0, va_rf (some z0)), (1, .int z1), (2, .int z2)] [] (k4 z0 z1 z2)) (this : Nat) (x2 : Int32) (y0 : Int32) (y1 : Int32) : Ok Γ mX11_allHeld 3 (qo Γ vI) 39 [(0, va_rf (some this)), (2, .int x2)] [.int y0, .int y1] (F_X11_allHeld_L39 k4 this x2 y0 y1) := by
  unfold F_X11_allHeld_L39
  refine ok_iadd (dd TX11_allHeld_0 21 rfl) ?_
  refine ok_istore_n (lv' := [(1, .int (y1 + y0)), (0, va_rf (some this)), (2, .int x2)]) (dd TX11_allHeld_0 22 rfl) (by decide) (by first | rfl | (simp only [List.filter, cat_rf]; rfl)) ?_
  refine ok_iinc (lv' := [(2, .int (x2 + (1 : Int32))), (1, .int (y1 + y0)), (0, va_rf (some this))]) (dd TX11_allHeld_0 23 rfl) 2 rfl (congrArg (fun q : Int32 => x2 + q) (show Int32.ofInt (1) = (1 : Int32) from by decide)) (by decide) (by first | rfl | (simp only [List.filter, cat_rf]; rfl)) ?_
  refine ok_goto (tgt := 4) (dd TX11_allHeld_0 24 rfl) (by decide) ?_
  refine ok_sub [2, 1, 0] rfl ?_
  exact hk4 this (y1 + y0) (x2 + (1 : Int32))
def F_X11_allHeld_L4 : Nat → Nat → Int32 → Int32 → M Int32
  | 0 => fun _ _ _ => fl
  | n + 1 => fun this x1 x2 => bn (gP 11 6 (some this)) fun v1 => bn (pRc 13 v1) fun b2 => bn (F_Jx4a65c_size_8abf5 b2) fun v3 => if v3 ≤ x2 then rt x1 else bn (gP 11 6 (some this)) fun v4 => bn (pRc 13 v4) fun b5 => bn (F_Jx4a65c_get_915e3 b5 x2) fun v6 => bn (cst 3 v6) fun _ => bn (gI 3 5 v6) fun v7 => if ¬ v7 = (1 : Int32) then F_X11_allHeld_L39 (F_X11_allHeld_L4 n) this x2 (0 : Int32) x1 else F_X11_allHeld_L39 (F_X11_allHeld_L4 n) this x2 (1 : Int32) x1
set_option maxRecDepth 100000 in
theorem O_X11_allHeld_L4 (Γ : Gam) (n : Nat) : ∀ (this : Nat) (x1 : Int32) (x2 : Int32), Ok Γ mX11_allHeld 3 (qo Γ vI) 4 [(0, va_rf (some this)), (1, .int x1), (2, .int x2)] [] (F_X11_allHeld_L4 n this x1 x2) := by
  induction n with
  | zero => intro this x1 x2; exact ok_fl
  | succ n ih =>
    intro this x1 x2
    rw [F_X11_allHeld_L4]
    refine ok_iload_n (dd TX11_allHeld_0 4 rfl) 2 rfl ?_
    refine ok_aload_n (dd TX11_allHeld_0 5 rfl) 0 rfl ?_
    refine ok_gP fl_RX11_43 rfl (dd TX11_allHeld_0 6 rfl) (fun v1 => ?_)
    refine ok_callVI (cn := 13) [] [.int x2] (fun b2 => C_Jx4a65c_size_8abf5 Γ b2) rfl cy_Jx4a65c_size_8abf5 ml_RX11_85 im_Jx4a65c_size_8abf5 se_Jx4a65c_size_8abf5 (by decide) (Nat.le_of_ble_eq_true rfl) rfl (dd TX11_allHeld_0 7 rfl) (fun v3 => ?_)
    refine ok_icmp_ge (tgt := 47) (dd TX11_allHeld_0 8 rfl) (by decide) ?_ ?_
    · refine ok_iload_n (dd TX11_allHeld_0 25 rfl) 1 rfl ?_
      exact ok_ireturn (dd TX11_allHeld_0 26 rfl) rfl
    · refine ok_iload_n (dd TX11_allHeld_0 9 rfl) 1 rfl ?_
      refine ok_aload_n (dd TX11_allHeld_0 10 rfl) 0 rfl ?_
      refine ok_gP fl_RX11_43 rfl (dd TX11_allHeld_0 11 rfl) (fun v4 => ?_)
      refine ok_iload_n (dd TX11_allHeld_0 12 rfl) 2 rfl ?_
      refine ok_callVR (cn := 13) [.int x2] [.int x1] (fun b5 => C_Jx4a65c_get_915e3 Γ b5 x2) rfl cy_Jx4a65c_get_915e3 ml_RX11_139 im_Jx4a65c_get_915e3 se_Jx4a65c_get_915e3 (by decide) (Nat.le_of_ble_eq_true rfl) rfl (dd TX11_allHeld_0 13 rfl) (fun v6 => ?_)
      refine ok_cst (cn := 3) rfl cl_RX11_278 (dd TX11_allHeld_0 14 rfl) ?_
      refine ok_gI fl_RX11_305 rfl (dd TX11_allHeld_0 15 rfl) (fun v7 => ?_)
      refine ok_iconst (v := (1 : Int32)) (dd TX11_allHeld_0 16 rfl) (by decide) ?_
      refine ok_icmp_ne (tgt := 38) (dd TX11_allHeld_0 17 rfl) (by decide) ?_ ?_
      · refine ok_iconst (v := (0 : Int32)) (dd TX11_allHeld_0 20 rfl) (by decide) ?_
        refine ok_sub [0, 2] rfl ?_
        exact O_X11_allHeld_L39 Γ (F_X11_allHeld_L4 n) ih this x2 (0 : Int32) x1
      · refine ok_iconst (v := (1 : Int32)) (dd TX11_allHeld_0 18 rfl) (by decide) ?_
        refine ok_goto (tgt := 39) (dd TX11_allHeld_0 19 rfl) (by decide) ?_
        refine ok_sub [0, 2] rfl ?_
        exact O_X11_allHeld_L39 Γ (F_X11_allHeld_L4 n) ih this x2 (1 : Int32) x1
def F_X11_allHeld (this : Nat) : M Int32 := F_X11_allHeld_L4 FU this (0 : Int32) (0 : Int32)
set_option maxRecDepth 100000 in
theorem C_X11_allHeld (Γ : Gam) (this : Nat) : Ct Γ mX11_allHeld 3 vI [va_rf (some this)] (F_X11_allHeld this) := by
  refine ct_in (lv := [(0, va_rf (some this))]) (by decide) (by first | rfl | (simp only [lv_args, cat_rf]; rfl)) (by first | exact Nat.le_of_ble_eq_true rfl | (rw [lg_len]; simp only [List.map_cons, List.map_nil, cat_rf]; exact Nat.le_of_ble_eq_true rfl)) ?_
  unfold F_X11_allHeld
  refine ok_iconst (v := (0 : Int32)) (dd TX11_allHeld_0 0 rfl) (by decide) ?_
  refine ok_istore_n (lv' := [(1, .int (0 : Int32)), (0, va_rf (some this))]) (dd TX11_allHeld_0 1 rfl) (by decide) (by first | rfl | (simp only [List.filter, cat_rf]; rfl)) ?_
  refine ok_iconst (v := (0 : Int32)) (dd TX11_allHeld_0 2 rfl) (by decide) ?_
  refine ok_istore_n (lv' := [(2, .int (0 : Int32)), (1, .int (0 : Int32)), (0, va_rf (some this))]) (dd TX11_allHeld_0 3 rfl) (by decide) (by first | rfl | (simp only [List.filter, cat_rf]; rfl)) ?_
  refine ok_sub [2, 1, 0] rfl ?_
  exact O_X11_allHeld_L4 Γ FU this (0 : Int32) (0 : Int32)
def F_X11_latestPrice (this : Nat) (p0 : Int32) : M Int32 := bn (gP 11 7 (some this)) fun v1 => bn (pRc 13 v1) fun b2 => bn (F_Jx4a65c_isEmpty_aae02 b2) fun v3 => if v3 = 0 then bn (gP 11 7 (some this)) fun v4 => bn (gP 11 7 (some this)) fun v5 => bn (pRc 13 v5) fun b6 => bn (F_Jx4a65c_size_8abf5 b6) fun v7 => bn (pRc 13 v4) fun b8 => bn (F_Jx4a65c_get_915e3 b8 (v7 - (1 : Int32))) fun v9 => bn (cst 0 v9) fun _ => bn (gP 0 0 v9) fun v10 => bn (lP 86 v10 p0) fun v11 => if ¬ v11 = none then bn (gI 8 0 v11) fun v12 => rt v12 else rt (0 : Int32) else rt (0 : Int32)
set_option maxRecDepth 100000 in
theorem C_X11_latestPrice (Γ : Gam) (this : Nat) (p0 : Int32) : Ct Γ mX11_latestPrice 3 vI [va_rf (some this), .int p0] (F_X11_latestPrice this p0) := by
  refine ct_in (lv := [(0, va_rf (some this)), (1, .int p0)]) (by decide) (by first | rfl | (simp only [lv_args, cat_rf]; rfl)) (by first | exact Nat.le_of_ble_eq_true rfl | (rw [lg_len]; simp only [List.map_cons, List.map_nil, cat_rf]; exact Nat.le_of_ble_eq_true rfl)) ?_
  unfold F_X11_latestPrice
  refine ok_aload_n (dd TX11_latestPrice_0 0 rfl) 0 rfl ?_
  refine ok_gP fl_RX11_46 rfl (dd TX11_latestPrice_0 1 rfl) (fun v1 => ?_)
  refine ok_callVI (cn := 13) [] [] (fun b2 => C_Jx4a65c_isEmpty_aae02 Γ b2) rfl cy_Jx4a65c_isEmpty_aae02 ml_RX11_271 im_Jx4a65c_isEmpty_aae02 se_Jx4a65c_isEmpty_aae02 (by decide) (Nat.le_of_ble_eq_true rfl) rfl (dd TX11_latestPrice_0 2 rfl) (fun v3 => ?_)
  refine ok_if_eq (tgt := 12) (dd TX11_latestPrice_0 3 rfl) (by decide) ?_ ?_
  · refine ok_aload_n (dd TX11_latestPrice_0 6 rfl) 0 rfl ?_
    refine ok_gP fl_RX11_46 rfl (dd TX11_latestPrice_0 7 rfl) (fun v4 => ?_)
    refine ok_aload_n (dd TX11_latestPrice_0 8 rfl) 0 rfl ?_
    refine ok_gP fl_RX11_46 rfl (dd TX11_latestPrice_0 9 rfl) (fun v5 => ?_)
    refine ok_callVI (cn := 13) [] [va_rf v4] (fun b6 => C_Jx4a65c_size_8abf5 Γ b6) rfl cy_Jx4a65c_size_8abf5 ml_RX11_85 im_Jx4a65c_size_8abf5 se_Jx4a65c_size_8abf5 (by decide) (Nat.le_of_ble_eq_true rfl) rfl (dd TX11_latestPrice_0 10 rfl) (fun v7 => ?_)
    refine ok_iconst (v := (1 : Int32)) (dd TX11_latestPrice_0 11 rfl) (by decide) ?_
    refine ok_isub (dd TX11_latestPrice_0 12 rfl) ?_
    refine ok_callVR (cn := 13) [.int (v7 - (1 : Int32))] [] (fun b8 => C_Jx4a65c_get_915e3 Γ b8 (v7 - (1 : Int32))) rfl cy_Jx4a65c_get_915e3 ml_RX11_139 im_Jx4a65c_get_915e3 se_Jx4a65c_get_915e3 (by decide) (Nat.le_of_ble_eq_true rfl) rfl (dd TX11_latestPrice_0 13 rfl) (fun v9 => ?_)
    refine ok_cst (cn := 0) rfl cl_RX11_189 (dd TX11_latestPrice_0 14 rfl) ?_
    refine ok_gP fl_RX11_199 rfl (dd TX11_latestPrice_0 15 rfl) (fun v10 => ?_)
    refine ok_iload_n (dd TX11_latestPrice_0 16 rfl) 1 rfl ?_
    refine ok_lP6 (kd := 86) (by decide) rfl (dd TX11_latestPrice_0 17 rfl) (fun v11 => ?_)
    refine ok_astore_n (lv' := [(2, va_rf v11), (0, va_rf (some this)), (1, .int p0)]) (dd TX11_latestPrice_0 18 rfl) (by decide) (by first | rfl | (simp only [List.filter, cat_rf]; rfl)) ?_
    refine ok_aload_n (dd TX11_latestPrice_0 19 rfl) 0 rfl ?_
    refine ok_ifnonnull (tgt := 45) (dd TX11_latestPrice_0 20 rfl) (by decide) ?_ ?_
    · refine ok_aload_n (dd TX11_latestPrice_0 23 rfl) 0 rfl ?_
      refine ok_gI fl_RX11_359 rfl (dd TX11_latestPrice_0 24 rfl) (fun v12 => ?_)
      exact ok_ireturn (dd TX11_latestPrice_0 25 rfl) rfl
    · refine ok_iconst (v := (0 : Int32)) (dd TX11_latestPrice_0 21 rfl) (by decide) ?_
      refine ok_goto (tgt := 49) (dd TX11_latestPrice_0 22 rfl) (by decide) ?_
      exact ok_ireturn (dd TX11_latestPrice_0 25 rfl) rfl
  · refine ok_iconst (v := (0 : Int32)) (dd TX11_latestPrice_0 4 rfl) (by decide) ?_
    exact ok_ireturn (dd TX11_latestPrice_0 5 rfl) rfl
def F_X11_priceOn_L42 (x4 : Option Nat) : M Int32 := if ¬ x4 = none then bn (gI 8 0 x4) fun v8 => rt v8 else rt (0 : Int32)
set_option maxRecDepth 100000 in
theorem O_X11_priceOn_L42 (Γ : Gam) (x4 : Option Nat) : Ok Γ mX11_priceOn 3 (qo Γ vI) 42 [(4, va_rf x4)] [] (F_X11_priceOn_L42 x4) := by
  unfold F_X11_priceOn_L42
  refine ok_aload (dd TX11_priceOn_0 19 rfl) 0 rfl ?_
  refine ok_ifnonnull (tgt := 51) (dd TX11_priceOn_0 20 rfl) (by decide) ?_ ?_
  · refine ok_aload (dd TX11_priceOn_0 23 rfl) 0 rfl ?_
    refine ok_gI fl_RX11_359 rfl (dd TX11_priceOn_0 24 rfl) (fun v8 => ?_)
    exact ok_ireturn (dd TX11_priceOn_0 25 rfl) rfl
  · refine ok_iconst (v := (0 : Int32)) (dd TX11_priceOn_0 21 rfl) (by decide) ?_
    refine ok_goto (tgt := 56) (dd TX11_priceOn_0 22 rfl) (by decide) ?_
    exact ok_ireturn (dd TX11_priceOn_0 25 rfl) rfl
def F_X11_priceOn_L18 : Nat → Int32 → Option Nat → M Int32
  | 0 => fun _ _ => fl
  | n + 1 => fun x3 x4 => if x4 = none then F_X11_priceOn_L42 x4 else bn (gI 8 1 x4) fun v6 => if v6 ≤ x3 then F_X11_priceOn_L42 x4 else bn (gP 8 2 x4) fun v7 => F_X11_priceOn_L18 n x3 v7
set_option maxRecDepth 100000 in
theorem O_X11_priceOn_L18 (Γ : Gam) (n : Nat) : ∀ (x3 : Int32) (x4 : Option Nat), Ok Γ mX11_priceOn 3 (qo Γ vI) 18 [(3, .int x3), (4, va_rf x4)] [] (F_X11_priceOn_L18 n x3 x4) := by
  induction n with
  | zero => intro x3 x4; exact ok_fl
  | succ n ih =>
    intro x3 x4
    rw [F_X11_priceOn_L18]
    refine ok_aload (dd TX11_priceOn_0 9 rfl) 1 rfl ?_
    refine ok_ifnull (tgt := 42) (dd TX11_priceOn_0 10 rfl) (by decide) ?_ ?_
    · refine ok_sub [1] rfl ?_
      exact O_X11_priceOn_L42 Γ x4
    · refine ok_aload (dd TX11_priceOn_0 11 rfl) 1 rfl ?_
      refine ok_gI fl_RX11_360 rfl (dd TX11_priceOn_0 12 rfl) (fun v6 => ?_)
      refine ok_iload_n (dd TX11_priceOn_0 13 rfl) 0 rfl ?_
      refine ok_icmp_le (tgt := 42) (dd TX11_priceOn_0 14 rfl) (by decide) ?_ ?_
      · refine ok_sub [1] rfl ?_
        exact O_X11_priceOn_L42 Γ x4
      · refine ok_aload (dd TX11_priceOn_0 15 rfl) 1 rfl ?_
        refine ok_gP fl_RX11_363 rfl (dd TX11_priceOn_0 16 rfl) (fun v7 => ?_)
        refine ok_astore (lv' := [(4, va_rf v7), (3, .int x3)]) (dd TX11_priceOn_0 17 rfl) (by decide) (by first | rfl | (simp only [List.filter, cat_rf]; rfl)) ?_
        refine ok_goto (tgt := 18) (dd TX11_priceOn_0 18 rfl) (by decide) ?_
        refine ok_sub [1, 0] rfl ?_
        exact ih x3 v7
def F_X11_priceOn (this : Nat) (p0 : Int32) (p1 : Int32) (p2 : Int32) : M Int32 := bn (gP 11 7 (some this)) fun v1 => bn (pRc 13 v1) fun b2 => bn (F_Jx4a65c_get_915e3 b2 p1) fun v3 => bn (cst 0 v3) fun _ => bn (gP 0 0 v3) fun v4 => bn (lP 86 v4 p0) fun v5 => F_X11_priceOn_L18 FU p2 v5
set_option maxRecDepth 100000 in
theorem C_X11_priceOn (Γ : Gam) (this : Nat) (p0 : Int32) (p1 : Int32) (p2 : Int32) : Ct Γ mX11_priceOn 3 vI [va_rf (some this), .int p0, .int p1, .int p2] (F_X11_priceOn this p0 p1 p2) := by
  refine ct_in (lv := [(0, va_rf (some this)), (1, .int p0), (2, .int p1), (3, .int p2)]) (by decide) (by first | rfl | (simp only [lv_args, cat_rf]; rfl)) (by first | exact Nat.le_of_ble_eq_true rfl | (rw [lg_len]; simp only [List.map_cons, List.map_nil, cat_rf]; exact Nat.le_of_ble_eq_true rfl)) ?_
  unfold F_X11_priceOn
  refine ok_aload_n (dd TX11_priceOn_0 0 rfl) 0 rfl ?_
  refine ok_gP fl_RX11_46 rfl (dd TX11_priceOn_0 1 rfl) (fun v1 => ?_)
  refine ok_iload_n (dd TX11_priceOn_0 2 rfl) 2 rfl ?_
  refine ok_callVR (cn := 13) [.int p1] [] (fun b2 => C_Jx4a65c_get_915e3 Γ b2 p1) rfl cy_Jx4a65c_get_915e3 ml_RX11_139 im_Jx4a65c_get_915e3 se_Jx4a65c_get_915e3 (by decide) (Nat.le_of_ble_eq_true rfl) rfl (dd TX11_priceOn_0 3 rfl) (fun v3 => ?_)
  refine ok_cst (cn := 0) rfl cl_RX11_189 (dd TX11_priceOn_0 4 rfl) ?_
  refine ok_gP fl_RX11_199 rfl (dd TX11_priceOn_0 5 rfl) (fun v4 => ?_)
  refine ok_iload_n (dd TX11_priceOn_0 6 rfl) 1 rfl ?_
  refine ok_lP6 (kd := 86) (by decide) rfl (dd TX11_priceOn_0 7 rfl) (fun v5 => ?_)
  refine ok_astore (lv' := [(4, va_rf v5), (0, va_rf (some this)), (1, .int p0), (2, .int p1), (3, .int p2)]) (dd TX11_priceOn_0 8 rfl) (by decide) (by first | rfl | (simp only [List.filter, cat_rf]; rfl)) ?_
  refine ok_sub [4, 0] rfl ?_
  exact O_X11_priceOn_L18 Γ FU p2 v5
