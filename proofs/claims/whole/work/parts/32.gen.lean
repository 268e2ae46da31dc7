def F_X11_worthOf_L13 : Nat → Nat → Option Nat → Int64 → Int32 → M Int64
  | 0 => fun _ _ _ _ => fl
  | n + 1 => fun this x1 x2 x4 => if (6 : Int32) ≤ x4 then rt x2 else bn (gP 1 0 x1) fun v3 => bn (lI 104 v3 x4) fun v4 => bn (pRc 11 (some this)) fun b5 => bn (F_X11_latestPrice b5 x4) fun v6 => F_X11_worthOf_L13 n this x1 (x2 + (v4.toInt64 * v6.toInt64)) (x4 + (1 : Int32))
set_option maxRecDepth 100000 in
theorem O_X11_worthOf_L13 (Γ : Gam) (n : Nat) : ∀ (this : Nat) (x1 : Option Nat) (x2 : Int64) (x4 : Int32), Ok Γ mX11_worthOf 4 (qo Γ vL) 13 [(0, va_rf (some this)), (1, va_rf x1), (2, .long x2), (4, .int x4)] [] (F_X11_worthOf_L13 n this x1 x2 x4) := by
  induction n with
  | zero => intro this x1 x2 x4; exact ok_fl
  | succ n ih =>
    intro this x1 x2 x4
    rw [F_X11_worthOf_L13]
    refine ok_iload (dd TX11_worthOf_0 8 rfl) 3 rfl ?_
    refine ok_bipush (v := (6 : Int32)) (dd TX11_worthOf_0 9 rfl) (by decide) ?_
    refine ok_icmp_ge (tgt := 45) (dd TX11_worthOf_0 10 rfl) (by decide) ?_ ?_
    · refine ok_lload_n (dd TX11_worthOf_0 26 rfl) 2 rfl ?_
      exact ok_lreturn (dd TX11_worthOf_0 27 rfl) rfl
    · refine ok_lload_n (dd TX11_worthOf_0 11 rfl) 2 rfl ?_
      refine ok_aload_n (dd TX11_worthOf_0 12 rfl) 1 rfl ?_
      refine ok_gP fl_RX11_240 rfl (dd TX11_worthOf_0 13 rfl) (fun v3 => ?_)
      refine ok_iload (dd TX11_worthOf_0 14 rfl) 3 rfl ?_
      refine ok_lI (kd := 104) (by decide) rfl (dd TX11_worthOf_0 15 rfl) (fun v4 => ?_)
      refine ok_i2l (dd TX11_worthOf_0 16 rfl) ?_
      refine ok_aload_n (dd TX11_worthOf_0 17 rfl) 0 rfl ?_
      refine ok_iload (dd TX11_worthOf_0 18 rfl) 3 rfl ?_
      refine ok_callVI (cn := 11) [.int x4] [.long v4.toInt64, .long x2] (fun b5 => C_X11_latestPrice Γ b5 x4) rfl cy_X11_latestPrice ml_RX11_268 im_X11_latestPrice se_X11_latestPrice (by decide) (Nat.le_of_ble_eq_true rfl) rfl (dd TX11_worthOf_0 19 rfl) (fun v6 => ?_)
      refine ok_i2l (dd TX11_worthOf_0 20 rfl) ?_
      refine ok_lmul (dd TX11_worthOf_0 21 rfl) ?_
      refine ok_ladd (dd TX11_worthOf_0 22 rfl) ?_
      refine ok_lstore_n (lv' := [(2, .long (x2 + (v4.toInt64 * v6.toInt64))), (0, va_rf (some this)), (1, va_rf x1), (4, .int x4)]) (dd TX11_worthOf_0 23 rfl) (by decide) (by first | rfl | (simp only [List.filter, cat_rf]; rfl)) ?_
      refine ok_iinc (lv' := [(4, .int (x4 + (1 : Int32))), (2, .long (x2 + (v4.toInt64 * v6.toInt64))), (0, va_rf (some this)), (1, va_rf x1)]) (dd TX11_worthOf_0 24 rfl) 3 rfl (congrArg (fun q : Int32 => x4 + q) (show Int32.ofInt (1) = (1 : Int32) from by decide)) (by decide) (by first | rfl | (simp only [List.filter, cat_rf]; rfl)) ?_
      refine ok_goto (tgt := 13) (dd TX11_worthOf_0 25 rfl) (by decide) ?_
      refine ok_sub [2, 3, 1, 0] rfl ?_
      exact ih this x1 (x2 + (v4.toInt64 * v6.toInt64)) (x4 + (1 : Int32))
def F_X11_worthOf (this : Nat) (p0 : Option Nat) : M Int64 := bn (gLg 1 2 p0) fun v1 => bn (gLg 1 1 p0) fun v2 => F_X11_worthOf_L13 FU this p0 (v1 - v2) (0 : Int32)
set_option maxRecDepth 100000 in
theorem C_X11_worthOf (Γ : Gam) (this : Nat) (p0 : Option Nat) : Ct Γ mX11_worthOf 4 vL [va_rf (some this), va_rf p0] (F_X11_worthOf this p0) := by
  refine ct_in (lv := [(0, va_rf (some this)), (1, va_rf p0)]) (by decide) (by first | rfl | (simp only [lv_args, cat_rf]; rfl)) (by first | exact Nat.le_of_ble_eq_true rfl | (rw [lg_len]; simp only [List.map_cons, List.map_nil, cat_rf]; exact Nat.le_of_ble_eq_true rfl)) ?_
  unfold F_X11_worthOf
  refine ok_aload_n (dd TX11_worthOf_0 0 rfl) 1 rfl ?_
  refine ok_gL fl_RX11_104 rfl (dd TX11_worthOf_0 1 rfl) (fun v1 => ?_)
  refine ok_aload_n (dd TX11_worthOf_0 2 rfl) 1 rfl ?_
  refine ok_gL fl_RX11_367 rfl (dd TX11_worthOf_0 3 rfl) (fun v2 => ?_)
  refine ok_lsub (dd TX11_worthOf_0 4 rfl) ?_
  refine ok_lstore_n (lv' := [(2, .long (v1 - v2)), (0, va_rf (some this)), (1, va_rf p0)]) (dd TX11_worthOf_0 5 rfl) (by decide) (by first | rfl | (simp only [List.filter, cat_rf]; rfl)) ?_
  refine ok_iconst (v := (0 : Int32)) (dd TX11_worthOf_0 6 rfl) (by decide) ?_
  refine ok_istore (lv' := [(4, .int (0 : Int32)), (2, .long (v1 - v2)), (0, va_rf (some this)), (1, va_rf p0)]) (dd TX11_worthOf_0 7 rfl) (by decide) (by first | rfl | (simp only [List.filter, cat_rf]; rfl)) ?_
  refine ok_sub [2, 3, 1, 0] rfl ?_
  exact O_X11_worthOf_L13 Γ FU this p0 (v1 - v2) (0 : Int32)
def F_X11_exchange_L96 (x3 : Int32) (x4 : Int32) (x5 : Int32) (x6 : Option Nat) (x7 : Option Nat) : M Unit := bn (pRc 1 x6) fun b17 => bn (F_X1_gain b17 x3 x4 x5) fun _ => bn (pRc 1 x7) fun b18 => bn (F_X1_gain b18 x3 (-x4) x5) fun _ => rt ()
set_option maxRecDepth 100000 in
theorem O_X11_exchange_L96 (Γ : Gam) (x3 : Int32) (x4 : Int32) (x5 : Int32) (x6 : Option Nat) (x7 : Option Nat) : Ok Γ mX11_exchange 7 (qo Γ vV) 96 [(3, .int x3), (4, .int x4), (5, .int x5), (6, va_rf x6), (7, va_rf x7)] [] (F_X11_exchange_L96 x3 x4 x5 x6 x7) := by
  unfold F_X11_exchange_L96
  refine ok_aload (dd TX11_exchange_1 12 rfl) 3 rfl ?_
  refine ok_iload_n (dd TX11_exchange_1 13 rfl) 0 rfl ?_
  refine ok_iload (dd TX11_exchange_1 14 rfl) 1 rfl ?_
  refine ok_iload (dd TX11_exchange_1 15 rfl) 2 rfl ?_
  refine ok_callVV (cn := 1) [.int x3, .int x4, .int x5] [] (fun b17 => C_X1_gain Γ b17 x3 x4 x5) rfl cy_X1_gain ml_RX11_398 im_X1_gain se_X1_gain (by decide) (Nat.le_of_ble_eq_true rfl) rfl (dd TX11_exchange_1 16 rfl) ?_
  refine ok_aload (dd TX11_exchange_1 17 rfl) 4 rfl ?_
  refine ok_iload_n (dd TX11_exchange_1 18 rfl) 0 rfl ?_
  refine ok_iload (dd TX11_exchange_1 19 rfl) 1 rfl ?_
  refine ok_ineg (dd TX11_exchange_1 20 rfl) ?_
  refine ok_iload (dd TX11_exchange_1 21 rfl) 2 rfl ?_
  refine ok_callVV (cn := 1) [.int x3, .int (-x4), .int x5] [] (fun b18 => C_X1_gain Γ b18 x3 (-x4) x5) rfl cy_X1_gain ml_RX11_398 im_X1_gain se_X1_gain (by decide) (Nat.le_of_ble_eq_true rfl) rfl (dd TX11_exchange_1 22 rfl) ?_
  exact ok_return (dd TX11_exchange_1 23 rfl) rfl
def F_X11_exchange (this : Nat) (p0 : Int32) (p1 : Int32) (p2 : Int32) (p3 : Int32) (p4 : Int32) : M Unit := bn (pRc 11 (some this)) fun b1 => bn (F_X11_memberOf b1 p0) fun v2 => bn (pRc 11 (some this)) fun b3 => bn (F_X11_memberOf b3 p1) fun v4 => if v2 = none then rt () else if v4 = none then rt () else if ¬ p0 = p1 then bn (gP 11 2 (some this)) fun v5 => bn (lP 157 v5 p2) fun v6 => bn (pRc 2 v6) fun b7 => bn (F_X2_takeLongs b7 p1 p3) fun _ => bn (gP 1 0 v2) fun v8 => bn (lI 104 v8 p2) fun v9 => if p3 ≤ (if (if (0 : Int32) < (-v9) then (-v9) else (0 : Int32)) < p3 then (if (0 : Int32) < (-v9) then (-v9) else (0 : Int32)) else p3) then F_X11_exchange_L96 p2 p3 p4 v2 v4 else bn (gP 11 2 (some this)) fun v10 => bn (lP 157 v10 p2) fun v11 => bn (gP 2 2 v11) fun v12 => bn (newO 9 4) fun r13 => bn (pRc 9 r13) fun b14 => bn (F_X9_init b14 p0 (p3 - (if (if (0 : Int32) < (-v9) then (-v9) else (0 : Int32)) < p3 then (if (0 : Int32) < (-v9) then (-v9) else (0 : Int32)) else p3)) (0 : Int32) (0 : Int32)) fun _ => bn (pRc 13 v12) fun b15 => bn (F_Jx4a65c_add_9ea2d b15 r13) fun v16 => F_X11_exchange_L96 p2 p3 p4 v2 v4 else rt ()
set_option maxRecDepth 100000 in
theorem C_X11_exchange (Γ : Gam) (this : Nat) (p0 : Int32) (p1 : Int32) (p2 : Int32) (p3 : Int32) (p4 : Int32) : Ct Γ mX11_exchange 7 vV [va_rf (some this), .int p0, .int p1, .int p2, .int p3, .int p4] (F_X11_exchange this p0 p1 p2 p3 p4) := by
  refine ct_in (lv := [(0, va_rf (some this)), (1, .int p0), (2, .int p1), (3, .int p2), (4, .int p3), (5, .int p4)]) (by decide) (by first | rfl | (simp only [lv_args, cat_rf]; rfl)) (by first | exact Nat.le_of_ble_eq_true rfl | (rw [lg_len]; simp only [List.map_cons, List.map_nil, cat_rf]; exact Nat.le_of_ble_eq_true rfl)) ?_
  unfold F_X11_exchange
  refine ok_aload_n (dd TX11_exchange_0 0 rfl) 0 rfl ?_
  refine ok_iload_n (dd TX11_exchange_0 1 rfl) 1 rfl ?_
  refine ok_callVR (cn := 11) [.int p0] [] (fun b1 => C_X11_memberOf Γ b1 p0) rfl cy_X11_memberOf ml_RX11_96 im_X11_memberOf se_X11_memberOf (by decide) (Nat.le_of_ble_eq_true rfl) rfl (dd TX11_exchange_0 2 rfl) (fun v2 => ?_)
  refine ok_astore (lv' := [(6, va_rf v2), (0, va_rf (some this)), (1, .int p0), (2, .int p1), (3, .int p2), (4, .int p3), (5, .int p4)]) (dd TX11_exchange_0 3 rfl) (by decide) (by first | rfl | (simp only [List.filter, cat_rf]; rfl)) ?_
  refine ok_aload_n (dd TX11_exchange_0 4 rfl) 1 rfl ?_
  refine ok_iload_n (dd TX11_exchange_0 5 rfl) 3 rfl ?_
  refine ok_callVR (cn := 11) [.int p1] [] (fun b3 => C_X11_memberOf Γ b3 p1) rfl cy_X11_memberOf ml_RX11_96 im_X11_memberOf se_X11_memberOf (by decide) (Nat.le_of_ble_eq_true rfl) rfl (dd TX11_exchange_0 6 rfl) (fun v4 => ?_)
  refine ok_astore (lv' := [(7, va_rf v4), (6, va_rf v2), (0, va_rf (some this)), (1, .int p0), (2, .int p1), (3, .int p2), (4, .int p3), (5, .int p4)]) (dd TX11_exchange_0 7 rfl) (by decide) (by first | rfl | (simp only [List.filter, cat_rf]; rfl)) ?_
  refine ok_aload (dd TX11_exchange_0 8 rfl) 1 rfl ?_
  refine ok_ifnull (tgt := 29) (dd TX11_exchange_0 9 rfl) (by decide) ?_ ?_
  · exact ok_return (dd TX11_exchange_0 15 rfl) rfl
  · refine ok_aload (dd TX11_exchange_0 10 rfl) 0 rfl ?_
    refine ok_ifnull (tgt := 29) (dd TX11_exchange_0 11 rfl) (by decide) ?_ ?_
    · exact ok_return (dd TX11_exchange_0 15 rfl) rfl
    · refine ok_iload_n (dd TX11_exchange_0 12 rfl) 3 rfl ?_
      refine ok_iload_n (dd TX11_exchange_0 13 rfl) 4 rfl ?_
      refine ok_icmp_ne (tgt := 30) (dd TX11_exchange_0 14 rfl) (by decide) ?_ ?_
      · refine ok_aload_n (dd TX11_exchange_0 16 rfl) 2 rfl ?_
        refine ok_gP fl_RX11_25 rfl (dd TX11_exchange_0 17 rfl) (fun v5 => ?_)
        refine ok_iload_n (dd TX11_exchange_0 18 rfl) 5 rfl ?_
        refine ok_lP5 (kd := 157) (by decide) rfl (dd TX11_exchange_0 19 rfl) (fun v6 => ?_)
        refine ok_iload_n (dd TX11_exchange_0 20 rfl) 4 rfl ?_
        refine ok_iload (dd TX11_exchange_0 21 rfl) 6 rfl ?_
        refine ok_callVV (cn := 2) [.int p1, .int p3] [] (fun b7 => C_X2_takeLongs Γ b7 p1 p3) rfl cy_X2_takeLongs ml_RX11_394 im_X2_takeLongs se_X2_takeLongs (by decide) (Nat.le_of_ble_eq_true rfl) rfl (dd TX11_exchange_0 22 rfl) ?_
        refine ok_iload (dd TX11_exchange_0 23 rfl) 6 rfl ?_
        refine ok_iconst (v := (0 : Int32)) (dd TX11_exchange_0 24 rfl) (by decide) ?_
        refine ok_aload (dd TX11_exchange_0 25 rfl) 1 rfl ?_
        refine ok_gP fl_RX11_240 rfl (dd TX11_exchange_0 26 rfl) (fun v8 => ?_)
        refine ok_iload_n (dd TX11_exchange_0 27 rfl) 5 rfl ?_
        refine ok_lI (kd := 104) (by decide) rfl (dd TX11_exchange_0 28 rfl) (fun v9 => ?_)
        refine ok_ineg (dd TX11_exchange_0 29 rfl) ?_
        refine ok_mmax ml_RX11_375 ms_max w_mi mc_max (by decide) (Nat.le_of_ble_eq_true rfl) (dd TX11_exchange_0 30 rfl) ?_
        refine ok_mmin ml_RX11_385 ms_min w_mi mc_min (by decide) (Nat.le_of_ble_eq_true rfl) (dd TX11_exchange_0 31 rfl) ?_
        refine ok_istore (lv' := [(8, .int (if (if (0 : Int32) < (-v9) then (-v9) else (0 : Int32)) < p3 then (if (0 : Int32) < (-v9) then (-v9) else (0 : Int32)) else p3)), (7, va_rf v4), (6, va_rf v2), (0, va_rf (some this)), (1, .int p0), (2, .int p1), (3, .int p2), (4, .int p3), (5, .int p4)]) (dd TX11_exchange_0 32 rfl) (by decide) (by first | rfl | (simp only [List.filter, cat_rf]; rfl)) ?_
        refine ok_iload (dd TX11_exchange_0 33 rfl) 7 rfl ?_
        refine ok_iload (dd TX11_exchange_0 34 rfl) 0 rfl ?_
        refine ok_icmp_le (tgt := 96) (dd TX11_exchange_0 35 rfl) (by decide) ?_ ?_
        · refine ok_sub [6, 7, 8, 2, 1] rfl ?_
          exact O_X11_exchange_L96 Γ p2 p3 p4 v2 v4
        · refine ok_aload_n (dd TX11_exchange_0 36 rfl) 3 rfl ?_
          refine ok_gP fl_RX11_25 rfl (dd TX11_exchange_0 37 rfl) (fun v10 => ?_)
          refine ok_iload_n (dd TX11_exchange_0 38 rfl) 6 rfl ?_
          refine ok_lP5 (kd := 157) (by decide) rfl (dd TX11_exchange_0 39 rfl) (fun v11 => ?_)
          refine ok_gP fl_RX11_244 rfl (dd TX11_exchange_1 0 rfl) (fun v12 => ?_)
          refine ok_newO cf_9 tyX9 tyX9_ok df_9 cl_RX11_115 ib_9 in_9 (dd TX11_exchange_1 1 rfl) (fun r13 => ?_)
          refine ok_dup (dd TX11_exchange_1 2 rfl) (by first | rfl | exact cat_rf _) ?_
          refine ok_iload_n (dd TX11_exchange_1 3 rfl) 4 rfl ?_
          refine ok_iload (dd TX11_exchange_1 4 rfl) 7 rfl ?_
          refine ok_iload (dd TX11_exchange_1 5 rfl) 0 rfl ?_
          refine ok_isub (dd TX11_exchange_1 6 rfl) ?_
          refine ok_iconst (v := (0 : Int32)) (dd TX11_exchange_1 7 rfl) (by decide) ?_
          refine ok_iconst (v := (0 : Int32)) (dd TX11_exchange_1 8 rfl) (by decide) ?_
          refine ok_callI (cn := 9) [.int p0, .int (p3 - (if (if (0 : Int32) < (-v9) then (-v9) else (0 : Int32)) < p3 then (if (0 : Int32) < (-v9) then (-v9) else (0 : Int32)) else p3)), .int (0 : Int32), .int (0 : Int32)] [va_rf r13, va_rf v12] (fun b14 => C_X9_init Γ b14 p0 (p3 - (if (if (0 : Int32) < (-v9) then (-v9) else (0 : Int32)) < p3 then (if (0 : Int32) < (-v9) then (-v9) else (0 : Int32)) else p3)) (0 : Int32) (0 : Int32)) cy_X9_init rfl rfl ml_RX11_120 im_X9_init (by decide) (Nat.le_of_ble_eq_true rfl) rfl (dd TX11_exchange_1 9 rfl) ?_
          refine ok_callVI (cn := 13) [va_rf r13] [] (fun b15 => C_Jx4a65c_add_9ea2d Γ b15 r13) rfl cy_Jx4a65c_add_9ea2d ml_RX11_92 im_Jx4a65c_add_9ea2d se_Jx4a65c_add_9ea2d (by decide) (Nat.le_of_ble_eq_true rfl) rfl (dd TX11_exchange_1 10 rfl) (fun v16 => ?_)
          refine ok_pop (dd TX11_exchange_1 11 rfl) (by first | rfl | exact cat_rf _) ?_
          refine ok_sub [6, 7, 8, 2, 1] rfl ?_
          exact O_X11_exchange_L96 Γ p2 p3 p4 v2 v4
      · exact ok_return (dd TX11_exchange_0 15 rfl) rfl
def F_X11_endPrice_L73 (this : Nat) (x1 : Int32) : M Int32 := bn (pRc 11 (some this)) fun b15 => bn (F_X11_latestPrice b15 x1) fun v16 => rt v16
set_option maxRecDepth 100000 in
theorem O_X11_endPrice_L73 (Γ : Gam) (this : Nat) (x1 : Int32) : Ok Γ mX11_endPrice 4 (qo Γ vI) 73 [(0, va_rf (some this)), (1, .int x1)] [] (F_X11_endPrice_L73 this x1) := by
  unfold F_X11_endPrice_L73
  refine ok_aload_n (dd TX11_endPrice_0 35 rfl) 0 rfl ?_
  refine ok_iload_n (dd TX11_endPrice_0 36 rfl) 1 rfl ?_
  refine ok_callVI (cn := 11) [.int x1] [] (fun b15 => C_X11_latestPrice Γ b15 x1) rfl cy_X11_latestPrice ml_RX11_268 im_X11_latestPrice se_X11_latestPrice (by decide) (Nat.le_of_ble_eq_true rfl) rfl (dd TX11_endPrice_0 37 rfl) (fun v16 => ?_)
  exact ok_ireturn (dd TX11_endPrice_0 38 rfl) rfl
def F_X11_endPrice_L67 (k10 : Nat → Int32 → Int32 → M Int32) (this : Nat) (x1 : Int32) (x2 : Int32) : M Int32 := k10 this x1 (x2 + (-1 : Int32))
set_option maxRecDepth 100000 in
theorem O_X11_endPrice_L67 (Γ : Gam) (k10 : Nat → Int32 → Int32 → M Int32) (hk10 : ∀ (z0 : Nat) (z1 : Int32) (z2 : Int32), Ok Γ mX11_endPrice 4 (qo Γ vI) 10 [(0, va_rf (some z0)), (1, .int z1), (2, .int z2)] [] (k10 z0 z1 z2)) (this : Nat) (x1 : Int32) (x2 : Int32) : Ok Γ mX11_endPrice 4 (qo Γ vI) 67 [(0, va_rf (some this)), (1, .int x1), (2, .int x2)] [] (F_X11_endPrice_L67 k10 this x1 x2) := by
  unfold F_X11_endPrice_L67
  refine ok_iinc (lv' := [(2, .int (x2 + (-1 : Int32))), (0, va_rf (some this)), (1, .int x1)]) (dd TX11_endPrice_0 33 rfl) 2 rfl (congrArg (fun q : Int32 => x2 + q) (show Int32.ofInt (-1) = (-1 : Int32) from by decide)) (by decide) (by first | rfl | (simp only [List.filter, cat_rf]; rfl)) ?_
  refine ok_goto (tgt := 10) (dd TX11_endPrice_0 34 rfl) (by decide) ?_
  refine ok_sub [1, 2, 0] rfl ?_
  exact hk10 this x1 (x2 + (-1 : Int32))
def F_X11_endPrice_L10 : Nat → Nat → Int32 → Int32 → M Int32
  | 0 => fun _ _ _ => fl
  | n + 1 => fun this x1 x2 => if x2 < 0 then F_X11_endPrice_L73 this x1 else bn (gP 11 4 (some this)) fun v4 => bn (pRc 13 v4) fun b5 => bn (F_Jx4a65c_get_915e3 b5 x2) fun v6 => bn (cst 10 v6) fun _ => bn (gI 10 5 v6) fun v7 => bn (gI 11 8 (some this)) fun v8 => if ¬ v7 = v8 then F_X11_endPrice_L73 this x1 else bn (gP 11 4 (some this)) fun v9 => bn (pRc 13 v9) fun b10 => bn (F_Jx4a65c_get_915e3 b10 x2) fun v11 => bn (cst 10 v11) fun _ => bn (gI 10 0 v11) fun v12 => if ¬ v12 = x1 then F_X11_endPrice_L67 (F_X11_endPrice_L10 n) this x1 x2 else bn (gI 10 6 v11) fun v13 => if ¬ v13 = 0 then F_X11_endPrice_L67 (F_X11_endPrice_L10 n) this x1 x2 else bn (gI 10 1 v11) fun v14 => rt v14
set_option maxRecDepth 100000 in
theorem O_X11_endPrice_L10 (Γ : Gam) (n : Nat) : ∀ (this : Nat) (x1 : Int32) (x2 : Int32), Ok Γ mX11_endPrice 4 (qo Γ vI) 10 [(0, va_rf (some this)), (1, .int x1), (2, .int x2)] [] (F_X11_endPrice_L10 n this x1 x2) := by
  induction n with
  | zero => intro this x1 x2; exact ok_fl
  | succ n ih =>
    intro this x1 x2
    rw [F_X11_endPrice_L10]
    refine ok_iload_n (dd TX11_endPrice_0 6 rfl) 2 rfl ?_
    refine ok_if_lt (tgt := 73) (dd TX11_endPrice_0 7 rfl) (by decide) ?_ ?_
    · refine ok_sub [0, 1] rfl ?_
      exact O_X11_endPrice_L73 Γ this x1
    · refine ok_aload_n (dd TX11_endPrice_0 8 rfl) 0 rfl ?_
      refine ok_gP fl_RX11_37 rfl (dd TX11_endPrice_0 9 rfl) (fun v4 => ?_)
      refine ok_iload_n (dd TX11_endPrice_0 10 rfl) 2 rfl ?_
      refine ok_callVR (cn := 13) [.int x2] [] (fun b5 => C_Jx4a65c_get_915e3 Γ b5 x2) rfl cy_Jx4a65c_get_915e3 ml_RX11_139 im_Jx4a65c_get_915e3 se_Jx4a65c_get_915e3 (by decide) (Nat.le_of_ble_eq_true rfl) rfl (dd TX11_endPrice_0 11 rfl) (fun v6 => ?_)
      refine ok_cst (cn := 10) rfl cl_RX11_157 (dd TX11_endPrice_0 12 rfl) ?_
      refine ok_gI fl_RX11_169 rfl (dd TX11_endPrice_0 13 rfl) (fun v7 => ?_)
      refine ok_aload_n (dd TX11_endPrice_0 14 rfl) 0 rfl ?_
      refine ok_gI fl_RX11_186 rfl (dd TX11_endPrice_0 15 rfl) (fun v8 => ?_)
      refine ok_icmp_ne (tgt := 73) (dd TX11_endPrice_0 16 rfl) (by decide) ?_ ?_
      · refine ok_sub [0, 1] rfl ?_
        exact O_X11_endPrice_L73 Γ this x1
      · refine ok_aload_n (dd TX11_endPrice_0 17 rfl) 0 rfl ?_
        refine ok_gP fl_RX11_37 rfl (dd TX11_endPrice_0 18 rfl) (fun v9 => ?_)
        refine ok_iload_n (dd TX11_endPrice_0 19 rfl) 2 rfl ?_
        refine ok_callVR (cn := 13) [.int x2] [] (fun b10 => C_Jx4a65c_get_915e3 Γ b10 x2) rfl cy_Jx4a65c_get_915e3 ml_RX11_139 im_Jx4a65c_get_915e3 se_Jx4a65c_get_915e3 (by decide) (Nat.le_of_ble_eq_true rfl) rfl (dd TX11_endPrice_0 20 rfl) (fun v11 => ?_)
        refine ok_cst (cn := 10) rfl cl_RX11_157 (dd TX11_endPrice_0 21 rfl) ?_
        refine ok_astore_n (lv' := [(3, va_rf v11), (0, va_rf (some this)), (1, .int x1), (2, .int x2)]) (dd TX11_endPrice_0 22 rfl) (by decide) (by first | rfl | (simp only [List.filter, cat_rf]; rfl)) ?_
        refine ok_aload_n (dd TX11_endPrice_0 23 rfl) 0 rfl ?_
        refine ok_gI fl_RX11_156 rfl (dd TX11_endPrice_0 24 rfl) (fun v12 => ?_)
        refine ok_iload_n (dd TX11_endPrice_0 25 rfl) 2 rfl ?_
        refine ok_icmp_ne (tgt := 67) (dd TX11_endPrice_0 26 rfl) (by decide) ?_ ?_
        · refine ok_sub [1, 2, 3] rfl ?_
          exact O_X11_endPrice_L67 Γ (F_X11_endPrice_L10 n) ih this x1 x2
        · refine ok_aload_n (dd TX11_endPrice_0 27 rfl) 0 rfl ?_
          refine ok_gZ fl_RX11_172 rfl (dd TX11_endPrice_0 28 rfl) (fun v13 => ?_)
          refine ok_if_ne (tgt := 67) (dd TX11_endPrice_0 29 rfl) (by decide) ?_ ?_
          · refine ok_sub [1, 2, 3] rfl ?_
            exact O_X11_endPrice_L67 Γ (F_X11_endPrice_L10 n) ih this x1 x2
          · refine ok_aload_n (dd TX11_endPrice_0 30 rfl) 0 rfl ?_
            refine ok_gI fl_RX11_161 rfl (dd TX11_endPrice_0 31 rfl) (fun v14 => ?_)
            exact ok_ireturn (dd TX11_endPrice_0 32 rfl) rfl
def F_X11_endPrice (this : Nat) (p0 : Int32) : M Int32 := bn (gP 11 4 (some this)) fun v1 => bn (pRc 13 v1) fun b2 => bn (F_Jx4a65c_size_8abf5 b2) fun v3 => F_X11_endPrice_L10 FU this p0 (v3 - (1 : Int32))
set_option maxRecDepth 100000 in
theorem C_X11_endPrice (Γ : Gam) (this : Nat) (p0 : Int32) : Ct Γ mX11_endPrice 4 vI [va_rf (some this), .int p0] (F_X11_endPrice this p0) := by
  refine ct_in (lv := [(0, va_rf (some this)), (1, .int p0)]) (by decide) (by first | rfl | (simp only [lv_args, cat_rf]; rfl)) (by first | exact Nat.le_of_ble_eq_true rfl | (rw [lg_len]; simp only [List.map_cons, List.map_nil, cat_rf]; exact Nat.le_of_ble_eq_true rfl)) ?_
  unfold F_X11_endPrice
  refine ok_aload_n (dd TX11_endPrice_0 0 rfl) 0 rfl ?_
  refine ok_gP fl_RX11_37 rfl (dd TX11_endPrice_0 1 rfl) (fun v1 => ?_)
  refine ok_callVI (cn := 13) [] [] (fun b2 => C_Jx4a65c_size_8abf5 Γ b2) rfl cy_Jx4a65c_size_8abf5 ml_RX11_85 im_Jx4a65c_size_8abf5 se_Jx4a65c_size_8abf5 (by decide) (Nat.le_of_ble_eq_true rfl) rfl (dd TX11_endPrice_0 2 rfl) (fun v3 => ?_)
  refine ok_iconst (v := (1 : Int32)) (dd TX11_endPrice_0 3 rfl) (by decide) ?_
  refine ok_isub (dd TX11_endPrice_0 4 rfl) ?_
  refine ok_istore_n (lv' := [(2, .int (v3 - (1 : Int32))), (0, va_rf (some this)), (1, .int p0)]) (dd TX11_endPrice_0 5 rfl) (by decide) (by first | rfl | (simp only [List.filter, cat_rf]; rfl)) ?_
  refine ok_sub [1, 2, 0] rfl ?_
  exact O_X11_endPrice_L10 Γ FU this p0 (v3 - (1 : Int32))
def F_X11_nextOpposite_L80 (k15 : Nat → Int32 → Int32 → Int32 → Int32 → Int32 → Int32 → M Int32) (this : Nat) (x1 : Int32) (x2 : Int32) (x3 : Int32) (x4 : Int32) (x5 : Int32) (x6 : Int32) : M Int32 := k15 this x1 x2 x3 x4 x5 (x6 + (1 : Int32))
set_option maxRecDepth 100000 in
theorem O_X11_nextOpposite_L80 (Γ : Gam) (k15 : Nat → Int32 → Int32 → Int32 → Int32 → Int32 → Int32 → M Int32) (hk15 : ∀ (z0 : Nat) (z1 : Int32) (z2 : Int32) (z3 : Int32) (z4 : Int32) (z5 : Int32) (z6 : Int32), Ok Γ mX11_nextOpposite 3 (qo Γ vI) 15 [(0, va_rf (some z0)), (1, .int z1), (2, .int z2), (3, .int z3), (4, .int z4), (5, .int z5), (6, .int z6)] [] (k15 z0 z1 z2 z3 z4 z5 z6)) (this : Nat) (x1 : Int32) (x2 : Int32) (x3 : Int32) (x4 : Int32) (x5 : Int32) (x6 : Int32) : Ok Γ mX11_nextOpposite 3 (qo Γ vI) 80 [(0, va_rf (some this)), (1, .int x1), (2, .int x2), (3, .int x3), (4, .int x4), (5, .int x5), (6, .int x6)] [] (F_X11_nextOpposite_L80 k15 this x1 x2 x3 x4 x5 x6) := by
  unfold F_X11_nextOpposite_L80
  refine ok_iinc (lv' := [(6, .int (x6 + (1 : Int32))), (0, va_rf (some this)), (1, .int x1), (2, .int x2), (3, .int x3), (4, .int x4), (5, .int x5)]) (dd TX11_nextOpposite_1 0 rfl) 6 rfl (congrArg (fun q : Int32 => x6 + q) (show Int32.ofInt (1) = (1 : Int32) from by decide)) (by decide) (by first | rfl | (simp only [List.filter, cat_rf]; rfl)) ?_
  refine ok_goto (tgt := 15) (dd TX11_nextOpposite_1 1 rfl) (by decide) ?_
  refine ok_sub [1, 2, 3, 4, 5, 6, 0] rfl ?_
  exact hk15 this x1 x2 x3 x4 x5 (x6 + (1 : Int32))
def F_X11_nextOpposite_L39 (k15 : Nat → Int32 → Int32 → Int32 → Int32 → Int32 → Int32 → M Int32) (this : Nat) (x1 : Int32) (x2 : Int32) (x3 : Int32) (x4 : Int32) (x6 : Int32) (y0 : Int32) : M Int32 := bn (gP 11 3 (some this)) fun v4 => bn (pRc 13 v4) fun b5 => bn (F_Jx4a65c_get_915e3 b5 y0) fun v6 => bn (cst 1 v6) fun _ => bn (gP 1 0 v6) fun v7 => bn (lI 104 v7 x2) fun v8 => if x3 = 0 then if v8 ≤ 0 then F_X11_nextOpposite_L80 k15 this x1 x2 x3 x4 y0 x6 else rt y0 else if 0 ≤ v8 then F_X11_nextOpposite_L80 k15 this x1 x2 x3 x4 y0 x6 else rt y0
set_option maxRecDepth 100000 in
theorem O_X11_nextOpposite_L39 (Γ : Gam) (k15 : Nat → Int32 → Int32 → Int32 → Int32 → Int32 → Int32 → M Int32) (hk15 : ∀ (z0 : Nat) (z1 : Int32) (z2 : Int32) (z3 : Int32) (z4 : Int32) (z5 : Int32) (z6 : Int32), Ok Γ mX11_nextOpposite 3 (qo Γ vI) 15 [(0, va_rf (some z0)), (1, .int z1), (2, .int z2), (3, .int z3), (4, .int z4), (5, .int z5), (6, .int z6)] [] (k15 z0 z1 z2 z3 z4 z5 z6)) (this : Nat) (x1 : Int32) (x2 : Int32) (x3 : Int32) (x4 : Int32) (x6 : Int32) (y0 : Int32) : Ok Γ mX11_nextOpposite 3 (qo Γ vI) 39 [(0, va_rf (some this)), (1, .int x1), (2, .int x2), (3, .int x3), (4, .int x4), (6, .int x6)] [.int y0] (F_X11_nextOpposite_L39 k15 this x1 x2 x3 x4 x6 y0) := by
  unfold F_X11_nextOpposite_L39
  refine ok_istore (lv' := [(5, .int y0), (0, va_rf (some this)), (1, .int x1), (2, .int x2), (3, .int x3), (4, .int x4), (6, .int x6)]) (dd TX11_nextOpposite_0 21 rfl) (by decide) (by first | rfl | (simp only [List.filter, cat_rf]; rfl)) ?_
  refine ok_aload_n (dd TX11_nextOpposite_0 22 rfl) 1 rfl ?_
  refine ok_gP fl_RX11_33 rfl (dd TX11_nextOpposite_0 23 rfl) (fun v4 => ?_)
  refine ok_iload (dd TX11_nextOpposite_0 24 rfl) 0 rfl ?_
  refine ok_callVR (cn := 13) [.int y0] [] (fun b5 => C_Jx4a65c_get_915e3 Γ b5 y0) rfl cy_Jx4a65c_get_915e3 ml_RX11_139 im_Jx4a65c_get_915e3 se_Jx4a65c_get_915e3 (by decide) (Nat.le_of_ble_eq_true rfl) rfl (dd TX11_nextOpposite_0 25 rfl) (fun v6 => ?_)
  refine ok_cst (cn := 1) rfl cl_RX11_89 (dd TX11_nextOpposite_0 26 rfl) ?_
  refine ok_gP fl_RX11_240 rfl (dd TX11_nextOpposite_0 27 rfl) (fun v7 => ?_)
  refine ok_iload_n (dd TX11_nextOpposite_0 28 rfl) 3 rfl ?_
  refine ok_lI (kd := 104) (by decide) rfl (dd TX11_nextOpposite_0 29 rfl) (fun v8 => ?_)
  refine ok_istore (lv' := [(7, .int v8), (5, .int y0), (0, va_rf (some this)), (1, .int x1), (2, .int x2), (3, .int x3), (4, .int x4), (6, .int x6)]) (dd TX11_nextOpposite_0 30 rfl) (by decide) (by first | rfl | (simp only [List.filter, cat_rf]; rfl)) ?_
  refine ok_iload_n (dd TX11_nextOpposite_0 31 rfl) 5 rfl ?_
  refine ok_if_eq (tgt := 72) (dd TX11_nextOpposite_0 32 rfl) (by decide) ?_ ?_
  · refine ok_iload (dd TX11_nextOpposite_0 36 rfl) 0 rfl ?_
    refine ok_if_le (tgt := 80) (dd TX11_nextOpposite_0 37 rfl) (by decide) ?_ ?_
    · refine ok_sub [2, 3, 4, 5, 6, 1, 7] rfl ?_
      exact O_X11_nextOpposite_L80 Γ k15 hk15 this x1 x2 x3 x4 y0 x6
    · refine ok_iload (dd TX11_nextOpposite_0 38 rfl) 1 rfl ?_
      exact ok_ireturn (dd TX11_nextOpposite_0 39 rfl) rfl
  · refine ok_iload (dd TX11_nextOpposite_0 33 rfl) 0 rfl ?_
    refine ok_if_ge (tgt := 80) (dd TX11_nextOpposite_0 34 rfl) (by decide) ?_ ?_
    · refine ok_sub [2, 3, 4, 5, 6, 1, 7] rfl ?_
      exact O_X11_nextOpposite_L80 Γ k15 hk15 this x1 x2 x3 x4 y0 x6
    · refine ok_goto (tgt := 77) (dd TX11_nextOpposite_0 35 rfl) (by decide) ?_
      refine ok_iload (dd TX11_nextOpposite_0 38 rfl) 1 rfl ?_
      exact ok_ireturn (dd TX11_nextOpposite_0 39 rfl) rfl
def F_X11_nextOpposite_L15 : Nat → Nat → Int32 → Int32 → Int32 → Int32 → Int32 → Int32 → M Int32
  | 0 => fun _ _ _ _ _ _ _ => fl
  | n + 1 => fun this x1 x2 x3 x4 x5 x6 => if x4 ≤ x6 then rt x1 else if x4 ≤ (x5 + (1 : Int32)) then F_X11_nextOpposite_L39 (F_X11_nextOpposite_L15 n) this x1 x2 x3 x4 x6 (0 : Int32) else F_X11_nextOpposite_L39 (F_X11_nextOpposite_L15 n) this x1 x2 x3 x4 x6 (x5 + (1 : Int32))
set_option maxRecDepth 100000 in
theorem O_X11_nextOpposite_L15 (Γ : Gam) (n : Nat) : ∀ (this : Nat) (x1 : Int32) (x2 : Int32) (x3 : Int32) (x4 : Int32) (x5 : Int32) (x6 : Int32), Ok Γ mX11_nextOpposite 3 (qo Γ vI) 15 [(0, va_rf (some this)), (1, .int x1), (2, .int x2), (3, .int x3), (4, .int x4), (5, .int x5), (6, .int x6)] [] (F_X11_nextOpposite_L15 n this x1 x2 x3 x4 x5 x6) := by
  induction n with
  | zero => intro this x1 x2 x3 x4 x5 x6; exact ok_fl
  | succ n ih =>
    intro this x1 x2 x3 x4 x5 x6
    rw [F_X11_nextOpposite_L15]
    refine ok_iload (dd TX11_nextOpposite_0 8 rfl) 6 rfl ?_
    refine ok_iload (dd TX11_nextOpposite_0 9 rfl) 4 rfl ?_
    refine ok_icmp_ge (tgt := 86) (dd TX11_nextOpposite_0 10 rfl) (by decide) ?_ ?_
    · refine ok_iload_n (dd TX11_nextOpposite_1 2 rfl) 1 rfl ?_
      exact ok_ireturn (dd TX11_nextOpposite_1 3 rfl) rfl
    · refine ok_iload (dd TX11_nextOpposite_0 11 rfl) 5 rfl ?_
      refine ok_iconst (v := (1 : Int32)) (dd TX11_nextOpposite_0 12 rfl) (by decide) ?_
      refine ok_iadd (dd TX11_nextOpposite_0 13 rfl) ?_
      refine ok_iload (dd TX11_nextOpposite_0 14 rfl) 4 rfl ?_
      refine ok_icmp_ge (tgt := 38) (dd TX11_nextOpposite_0 15 rfl) (by decide) ?_ ?_
      · refine ok_iconst (v := (0 : Int32)) (dd TX11_nextOpposite_0 20 rfl) (by decide) ?_
        refine ok_sub [0, 1, 2, 3, 4, 6] rfl ?_
        exact O_X11_nextOpposite_L39 Γ (F_X11_nextOpposite_L15 n) ih this x1 x2 x3 x4 x6 (0 : Int32)
      · refine ok_iload (dd TX11_nextOpposite_0 16 rfl) 5 rfl ?_
        refine ok_iconst (v := (1 : Int32)) (dd TX11_nextOpposite_0 17 rfl) (by decide) ?_
        refine ok_iadd (dd TX11_nextOpposite_0 18 rfl) ?_
        refine ok_goto (tgt := 39) (dd TX11_nextOpposite_0 19 rfl) (by decide) ?_
        refine ok_sub [0, 1, 2, 3, 4, 6] rfl ?_
        exact O_X11_nextOpposite_L39 Γ (F_X11_nextOpposite_L15 n) ih this x1 x2 x3 x4 x6 (x5 + (1 : Int32))
def F_X11_nextOpposite (this : Nat) (p0 : Int32) (p1 : Int32) (p2 : Int32) : M Int32 := bn (gP 11 3 (some this)) fun v1 => bn (pRc 13 v1) fun b2 => bn (F_Jx4a65c_size_8abf5 b2) fun v3 => F_X11_nextOpposite_L15 FU this p0 p1 p2 v3 p0 (0 : Int32)
set_option maxRecDepth 100000 in
theorem C_X11_nextOpposite (Γ : Gam) (this : Nat) (p0 : Int32) (p1 : Int32) (p2 : Int32) : Ct Γ mX11_nextOpposite 3 vI [va_rf (some this), .int p0, .int p1, .int p2] (F_X11_nextOpposite this p0 p1 p2) := by
  refine ct_in (lv := [(0, va_rf (some this)), (1, .int p0), (2, .int p1), (3, .int p2)]) (by decide) (by first | rfl | (simp only [lv_args, cat_rf]; rfl)) (by first | exact Nat.le_of_ble_eq_true rfl | (rw [lg_len]; simp only [List.map_cons, List.map_nil, cat_rf]; exact Nat.le_of_ble_eq_true rfl)) ?_
  unfold F_X11_nextOpposite
  refine ok_aload_n (dd TX11_nextOpposite_0 0 rfl) 0 rfl ?_
  refine ok_gP fl_RX11_33 rfl (dd TX11_nextOpposite_0 1 rfl) (fun v1 => ?_)
  refine ok_callVI (cn := 13) [] [] (fun b2 => C_Jx4a65c_size_8abf5 Γ b2) rfl cy_Jx4a65c_size_8abf5 ml_RX11_85 im_Jx4a65c_size_8abf5 se_Jx4a65c_size_8abf5 (by decide) (Nat.le_of_ble_eq_true rfl) rfl (dd TX11_nextOpposite_0 2 rfl) (fun v3 => ?_)
  refine ok_istore (lv' := [(4, .int v3), (0, va_rf (some this)), (1, .int p0), (2, .int p1), (3, .int p2)]) (dd TX11_nextOpposite_0 3 rfl) (by decide) (by first | rfl | (simp only [List.filter, cat_rf]; rfl)) ?_
  refine ok_iload_n (dd TX11_nextOpposite_0 4 rfl) 2 rfl ?_
  refine ok_istore (lv' := [(5, .int p0), (4, .int v3), (0, va_rf (some this)), (1, .int p0), (2, .int p1), (3, .int p2)]) (dd TX11_nextOpposite_0 5 rfl) (by decide) (by first | rfl | (simp only [List.filter, cat_rf]; rfl)) ?_
  refine ok_iconst (v := (0 : Int32)) (dd TX11_nextOpposite_0 6 rfl) (by decide) ?_
  refine ok_istore (lv' := [(6, .int (0 : Int32)), (5, .int p0), (4, .int v3), (0, va_rf (some this)), (1, .int p0), (2, .int p1), (3, .int p2)]) (dd TX11_nextOpposite_0 7 rfl) (by decide) (by first | rfl | (simp only [List.filter, cat_rf]; rfl)) ?_
  refine ok_sub [3, 4, 5, 6, 2, 1, 0] rfl ?_
  exact O_X11_nextOpposite_L15 Γ FU this p0 p1 p2 v3 p0 (0 : Int32)
def F_X11_rememberMembers_L2 : Nat → Nat → Option Nat → Int32 → M Unit
  | 0 => fun _ _ _ => fl
  | n + 1 => fun this x1 x2 => bn (gP 11 3 (some this)) fun v1 => bn (pRc 13 v1) fun b2 => bn (F_Jx4a65c_size_8abf5 b2) fun v3 => if v3 ≤ x2 then rt () else bn (gP 0 2 x1) fun v4 => bn (len v4) fun v5 => if v5 ≤ x2 then rt () else bn (gP 11 3 (some this)) fun v6 => bn (pRc 13 v6) fun b7 => bn (F_Jx4a65c_get_915e3 b7 x2) fun v8 => bn (cst 1 v8) fun _ => bn (gP 0 2 x1) fun v9 => bn (gLg 1 2 v8) fun v10 => bn (gLg 1 1 v8) fun v11 => bn (stL 97 v9 x2 (v10 - v11)) fun _ => bn (gP 1 0 v8) fun v12 => bn (gP 0 1 x1) fun v13 => bn (cpyI 104 88 v12 (0 : Int32) v13 (x2 * (6 : Int32)) (6 : Int32)) fun _ => F_X11_rememberMembers_L2 n this x1 (x2 + (1 : Int32))
set_option maxRecDepth 100000 in
theorem O_X11_rememberMembers_L2 (Γ : Gam) (n : Nat) : ∀ (this : Nat) (x1 : Option Nat) (x2 : Int32), Ok Γ mX11_rememberMembers 3 (qo Γ vV) 2 [(0, va_rf (some this)), (1, va_rf x1), (2, .int x2)] [] (F_X11_rememberMembers_L2 n this x1 x2) := by
  induction n with
  | zero => intro this x1 x2; exact ok_fl
  | succ n ih =>
    intro this x1 x2
    rw [F_X11_rememberMembers_L2]
    refine ok_iload_n (dd TX11_rememberMembers_0 2 rfl) 2 rfl ?_
    refine ok_aload_n (dd TX11_rememberMembers_0 3 rfl) 0 rfl ?_
    refine ok_gP fl_RX11_33 rfl (dd TX11_rememberMembers_0 4 rfl) (fun v1 => ?_)
    refine ok_callVI (cn := 13) [] [.int x2] (fun b2 => C_Jx4a65c_size_8abf5 Γ b2) rfl cy_Jx4a65c_size_8abf5 ml_RX11_85 im_Jx4a65c_size_8abf5 se_Jx4a65c_size_8abf5 (by decide) (Nat.le_of_ble_eq_true rfl) rfl (dd TX11_rememberMembers_0 5 rfl) (fun v3 => ?_)
    refine ok_icmp_ge (tgt := 73) (dd TX11_rememberMembers_0 6 rfl) (by decide) ?_ ?_
    · exact ok_return (dd TX11_rememberMembers_0 39 rfl) rfl
    · refine ok_iload_n (dd TX11_rememberMembers_0 7 rfl) 2 rfl ?_
      refine ok_aload_n (dd TX11_rememberMembers_0 8 rfl) 1 rfl ?_
      refine ok_gP fl_RX11_348 rfl (dd TX11_rememberMembers_0 9 rfl) (fun v4 => ?_)
      refine ok_len (dd TX11_rememberMembers_0 10 rfl) (fun v5 => ?_)
      refine ok_icmp_ge (tgt := 73) (dd TX11_rememberMembers_0 11 rfl) (by decide) ?_ ?_
      · exact ok_return (dd TX11_rememberMembers_0 39 rfl) rfl
      · refine ok_aload_n (dd TX11_rememberMembers_0 12 rfl) 0 rfl ?_
        refine ok_gP fl_RX11_33 rfl (dd TX11_rememberMembers_0 13 rfl) (fun v6 => ?_)
        refine ok_iload_n (dd TX11_rememberMembers_0 14 rfl) 2 rfl ?_
        refine ok_callVR (cn := 13) [.int x2] [] (fun b7 => C_Jx4a65c_get_915e3 Γ b7 x2) rfl cy_Jx4a65c_get_915e3 ml_RX11_139 im_Jx4a65c_get_915e3 se_Jx4a65c_get_915e3 (by decide) (Nat.le_of_ble_eq_true rfl) rfl (dd TX11_rememberMembers_0 15 rfl) (fun v8 => ?_)
        refine ok_cst (cn := 1) rfl cl_RX11_89 (dd TX11_rememberMembers_0 16 rfl) ?_
        refine ok_astore_n (lv' := [(3, va_rf v8), (0, va_rf (some this)), (1, va_rf x1), (2, .int x2)]) (dd TX11_rememberMembers_0 17 rfl) (by decide) (by first | rfl | (simp only [List.filter, cat_rf]; rfl)) ?_
        refine ok_aload_n (dd TX11_rememberMembers_0 18 rfl) 2 rfl ?_
        refine ok_gP fl_RX11_348 rfl (dd TX11_rememberMembers_0 19 rfl) (fun v9 => ?_)
        refine ok_iload_n (dd TX11_rememberMembers_0 20 rfl) 3 rfl ?_
        refine ok_aload_n (dd TX11_rememberMembers_0 21 rfl) 0 rfl ?_
        refine ok_gL fl_RX11_104 rfl (dd TX11_rememberMembers_0 22 rfl) (fun v10 => ?_)
        refine ok_aload_n (dd TX11_rememberMembers_0 23 rfl) 0 rfl ?_
        refine ok_gL fl_RX11_367 rfl (dd TX11_rememberMembers_0 24 rfl) (fun v11 => ?_)
        refine ok_lsub (dd TX11_rememberMembers_0 25 rfl) ?_
        refine ok_stL (kd := 97) (by decide) rfl (dd TX11_rememberMembers_0 26 rfl) ?_
        refine ok_aload_n (dd TX11_rememberMembers_0 27 rfl) 0 rfl ?_
        refine ok_gP fl_RX11_240 rfl (dd TX11_rememberMembers_0 28 rfl) (fun v12 => ?_)
        refine ok_iconst (v := (0 : Int32)) (dd TX11_rememberMembers_0 29 rfl) (by decide) ?_
        refine ok_aload_n (dd TX11_rememberMembers_0 30 rfl) 2 rfl ?_
        refine ok_gP fl_RX11_352 rfl (dd TX11_rememberMembers_0 31 rfl) (fun v13 => ?_)
        refine ok_iload_n (dd TX11_rememberMembers_0 32 rfl) 3 rfl ?_
        refine ok_bipush (v := (6 : Int32)) (dd TX11_rememberMembers_0 33 rfl) (by decide) ?_
        refine ok_imul (dd TX11_rememberMembers_0 34 rfl) ?_
        refine ok_bipush (v := (6 : Int32)) (dd TX11_rememberMembers_0 35 rfl) (by decide) ?_
        refine ok_cpyI (kd0 := 104) (kd := 88) (by decide) (by decide) rfl rfl (by decide) ac1_RX11_405 ac2 ac3 ac4 (by decide) (Nat.le_of_ble_eq_true rfl) (dd TX11_rememberMembers_0 36 rfl) ?_
        refine ok_iinc (lv' := [(2, .int (x2 + (1 : Int32))), (3, va_rf v8), (0, va_rf (some this)), (1, va_rf x1)]) (dd TX11_rememberMembers_0 37 rfl) 3 rfl (congrArg (fun q : Int32 => x2 + q) (show Int32.ofInt (1) = (1 : Int32) from by decide)) (by decide) (by first | rfl | (simp only [List.filter, cat_rf]; rfl)) ?_
        refine ok_goto (tgt := 2) (dd TX11_rememberMembers_0 38 rfl) (by decide) ?_
        refine ok_sub [2, 3, 0] rfl ?_
        exact ih this x1 (x2 + (1 : Int32))
def F_X11_rememberMembers (this : Nat) (p0 : Option Nat) : M Unit := F_X11_rememberMembers_L2 FU this p0 (0 : Int32)
set_option maxRecDepth 100000 in
theorem C_X11_rememberMembers (Γ : Gam) (this : Nat) (p0 : Option Nat) : Ct Γ mX11_rememberMembers 3 vV [va_rf (some this), va_rf p0] (F_X11_rememberMembers this p0) := by
  refine ct_in (lv := [(0, va_rf (some this)), (1, va_rf p0)]) (by decide) (by first | rfl | (simp only [lv_args, cat_rf]; rfl)) (by first | exact Nat.le_of_ble_eq_true rfl | (rw [lg_len]; simp only [List.map_cons, List.map_nil, cat_rf]; exact Nat.le_of_ble_eq_true rfl)) ?_
  unfold F_X11_rememberMembers
  refine ok_iconst (v := (0 : Int32)) (dd TX11_rememberMembers_0 0 rfl) (by decide) ?_
  refine ok_istore_n (lv' := [(2, .int (0 : Int32)), (0, va_rf (some this)), (1, va_rf p0)]) (dd TX11_rememberMembers_0 1 rfl) (by decide) (by first | rfl | (simp only [List.filter, cat_rf]; rfl)) ?_
  refine ok_sub [1, 2, 0] rfl ?_
  exact O_X11_rememberMembers_L2 Γ FU this p0 (0 : Int32)
def F_X11_freeReceiptsOf_L51 (k4 : Nat → Int32 → Int32 → Int32 → M Int32) (this : Nat) (x1 : Int32) (x3 : Int32) (y0 : Int32) (y1 : Int32) : M Int32 := k4 this x1 (y1 + y0) (x3 + (1 : Int32))
set_option maxRecDepth 100000 in
theorem O_X11_freeReceiptsOf_L51 (Γ : Gam) (k4 : Nat → Int32 → Int32 → Int32 → M Int32) (hk4 : ∀ (z0 : Nat) (z1 : Int32) (z2 : Int32) (z3 : Int32), Ok Γ mX11_freeReceiptsOf 3 (qo Γ vI) 4 [(0, va_rf (some z0)), (1, .int z1), (2, .int z2), (3, .int z3)] [] (k4 z0 z1 z2 z3)) (this : Nat) (x1 : Int32) (x3 : Int32) (y0 : Int32) (y1 : Int32) : Ok Γ mX11_freeReceiptsOf 3 (qo Γ vI) 51 [(0, va_rf (some this)), (1, .int x1), (3, .int x3)] [.int y0, .int y1] (F_X11_freeReceiptsOf_L51 k4 this x1 x3 y0 y1) := by
  unfold F_X11_freeReceiptsOf_L51
  refine ok_iadd (dd TX11_freeReceiptsOf_0 26 rfl) ?_
  refine ok_istore_n (lv' := [(2, .int (y1 + y0)), (0, va_rf (some this)), (1, .int x1), (3, .int x3)]) (dd TX11_freeReceiptsOf_0 27 rfl) (by decide) (by first | rfl | (simp only [List.filter, cat_rf]; rfl)) ?_
  refine ok_iinc (lv' := [(3, .int (x3 + (1 : Int32))), (2, .int (y1 + y0)), (0, va_rf (some this)), (1, .int x1)]) (dd TX11_freeReceiptsOf_0 28 rfl) 3 rfl (congrArg (fun q : Int32 => x3 + q) (show Int32.ofInt (1) = (1 : Int32) from by decide)) (by decide) (by first | rfl | (simp only [List.filter, cat_rf]; rfl)) ?_
  refine ok_goto (tgt := 4) (dd TX11_freeReceiptsOf_0 29 rfl) (by decide) ?_
  refine ok_sub [2, 3, 1, 0] rfl ?_
  exact hk4 this x1 (y1 + y0) (x3 + (1 : Int32))
def F_X11_freeReceiptsOf_L50 (k4 : Nat → Int32 → Int32 → Int32 → M Int32) (this : Nat) (x1 : Int32) (x3 : Int32) (y0 : Int32) : M Int32 := F_X11_freeReceiptsOf_L51 k4 this x1 x3 (0 : Int32) y0
set_option maxRecDepth 100000 in
theorem O_X11_freeReceiptsOf_L50 (Γ : Gam) (k4 : Nat → Int32 → Int32 → Int32 → M Int32) (hk4 : ∀ (z0 : Nat) (z1 : Int32) (z2 : Int32) (z3 : Int32), Ok Γ mX11_freeReceiptsOf 3 (qo Γ vI) 4 [(0, va_rf (some z0)), (1, .int z1), (2, .int z2), (3, .int z3)] [] (k4 z0 z1 z2 z3)) (this : Nat) (x1 : Int32) (x3 : Int32) (y0 : Int32) : Ok Γ mX11_freeReceiptsOf 3 (qo Γ vI) 50 [(0, va_rf (some this)), (1, .int x1), (3, .int x3)] [.int y0] (F_X11_freeReceiptsOf_L50 k4 this x1 x3 y0) := by
  unfold F_X11_freeReceiptsOf_L50
  refine ok_iconst (v := (0 : Int32)) (dd TX11_freeReceiptsOf_0 25 rfl) (by decide) ?_
  exact O_X11_freeReceiptsOf_L51 Γ k4 hk4 this x1 x3 (0 : Int32) y0
def F_X11_freeReceiptsOf_L4 : Nat → Nat → Int32 → Int32 → Int32 → M Int32
  | 0 => fun _ _ _ _ => fl
  | n + 1 => fun this x1 x2 x3 => bn (gP 11 5 (some this)) fun v1 => bn (pRc 13 v1) fun b2 => bn (F_Jx4a65c_size_8abf5 b2) fun v3 => if v3 ≤ x3 then rt x2 else bn (gP 11 5 (some this)) fun v4 => bn (pRc 13 v4) fun b5 => bn (F_Jx4a65c_get_915e3 b5 x3) fun v6 => bn (cst 5 v6) fun _ => bn (gI 5 3 v6) fun v7 => if v7 = 0 then F_X11_freeReceiptsOf_L50 (F_X11_freeReceiptsOf_L4 n) this x1 x3 x2 else bn (gI 5 2 v6) fun v8 => if ¬ v8 = x1 then F_X11_freeReceiptsOf_L50 (F_X11_freeReceiptsOf_L4 n) this x1 x3 x2 else F_X11_freeReceiptsOf_L51 (F_X11_freeReceiptsOf_L4 n) this x1 x3 (1 : Int32) x2
set_option maxRecDepth 100000 in
theorem O_X11_freeReceiptsOf_L4 (Γ : Gam) (n : Nat) : ∀ (this : Nat) (x1 : Int32) (x2 : Int32) (x3 : Int32), Ok Γ mX11_freeReceiptsOf 3 (qo Γ vI) 4 [(0, va_rf (some this)), (1, .int x1), (2, .int x2), (3, .int x3)] [] (F_X11_freeReceiptsOf_L4 n this x1 x2 x3) := by
  induction n with
  | zero => intro this x1 x2 x3; exact ok_fl
  | succ n ih =>
    intro this x1 x2 x3
    rw [F_X11_freeReceiptsOf_L4]
    refine ok_iload_n (dd TX11_freeReceiptsOf_0 4 rfl) 3 rfl ?_
    refine ok_aload_n (dd TX11_freeReceiptsOf_0 5 rfl) 0 rfl ?_
    refine ok_gP fl_RX11_40 rfl (dd TX11_freeReceiptsOf_0 6 rfl) (fun v1 => ?_)
    refine ok_callVI (cn := 13) [] [.int x3] (fun b2 => C_Jx4a65c_size_8abf5 Γ b2) rfl cy_Jx4a65c_size_8abf5 ml_RX11_85 im_Jx4a65c_size_8abf5 se_Jx4a65c_size_8abf5 (by decide) (Nat.le_of_ble_eq_true rfl) rfl (dd TX11_freeReceiptsOf_0 7 rfl) (fun v3 => ?_)
    refine ok_icmp_ge (tgt := 59) (dd TX11_freeReceiptsOf_0 8 rfl) (by decide) ?_ ?_
    · refine ok_iload_n (dd TX11_freeReceiptsOf_0 30 rfl) 2 rfl ?_
      exact ok_ireturn (dd TX11_freeReceiptsOf_0 31 rfl) rfl
    · refine ok_aload_n (dd TX11_freeReceiptsOf_0 9 rfl) 0 rfl ?_
      refine ok_gP fl_RX11_40 rfl (dd TX11_freeReceiptsOf_0 10 rfl) (fun v4 => ?_)
      refine ok_iload_n (dd TX11_freeReceiptsOf_0 11 rfl) 3 rfl ?_
      refine ok_callVR (cn := 13) [.int x3] [] (fun b5 => C_Jx4a65c_get_915e3 Γ b5 x3) rfl cy_Jx4a65c_get_915e3 ml_RX11_139 im_Jx4a65c_get_915e3 se_Jx4a65c_get_915e3 (by decide) (Nat.le_of_ble_eq_true rfl) rfl (dd TX11_freeReceiptsOf_0 12 rfl) (fun v6 => ?_)
      refine ok_cst (cn := 5) rfl cl_RX11_253 (dd TX11_freeReceiptsOf_0 13 rfl) ?_
      refine ok_astore (lv' := [(4, va_rf v6), (0, va_rf (some this)), (1, .int x1), (2, .int x2), (3, .int x3)]) (dd TX11_freeReceiptsOf_0 14 rfl) (by decide) (by first | rfl | (simp only [List.filter, cat_rf]; rfl)) ?_
      refine ok_iload_n (dd TX11_freeReceiptsOf_0 15 rfl) 3 rfl ?_
      refine ok_aload (dd TX11_freeReceiptsOf_0 16 rfl) 0 rfl ?_
      refine ok_gZ fl_RX11_262 rfl (dd TX11_freeReceiptsOf_0 17 rfl) (fun v7 => ?_)
      refine ok_if_eq (tgt := 50) (dd TX11_freeReceiptsOf_0 18 rfl) (by decide) ?_ ?_
      · refine ok_sub [1, 2, 4] rfl ?_
        exact O_X11_freeReceiptsOf_L50 Γ (F_X11_freeReceiptsOf_L4 n) ih this x1 x3 x2
      · refine ok_aload (dd TX11_freeReceiptsOf_0 19 rfl) 0 rfl ?_
        refine ok_gI fl_RX11_265 rfl (dd TX11_freeReceiptsOf_0 20 rfl) (fun v8 => ?_)
        refine ok_iload_n (dd TX11_freeReceiptsOf_0 21 rfl) 2 rfl ?_
        refine ok_icmp_ne (tgt := 50) (dd TX11_freeReceiptsOf_0 22 rfl) (by decide) ?_ ?_
        · refine ok_sub [1, 2, 4] rfl ?_
          exact O_X11_freeReceiptsOf_L50 Γ (F_X11_freeReceiptsOf_L4 n) ih this x1 x3 x2
        · refine ok_iconst (v := (1 : Int32)) (dd TX11_freeReceiptsOf_0 23 rfl) (by decide) ?_
          refine ok_goto (tgt := 51) (dd TX11_freeReceiptsOf_0 24 rfl) (by decide) ?_
          refine ok_sub [1, 2, 4] rfl ?_
          exact O_X11_freeReceiptsOf_L51 Γ (F_X11_freeReceiptsOf_L4 n) ih this x1 x3 (1 : Int32) x2
def F_X11_freeReceiptsOf (this : Nat) (p0 : Int32) : M Int32 := F_X11_freeReceiptsOf_L4 FU this p0 (0 : Int32) (0 : Int32)
set_option maxRecDepth 100000 in
theorem C_X11_freeReceiptsOf (Γ : Gam) (this : Nat) (p0 : Int32) : Ct Γ mX11_freeReceiptsOf 3 vI [va_rf (some this), .int p0] (F_X11_freeReceiptsOf this p0) := by
  refine ct_in (lv := [(0, va_rf (some this)), (1, .int p0)]) (by decide) (by first | rfl | (simp only [lv_args, cat_rf]; rfl)) (by first | exact Nat.le_of_ble_eq_true rfl | (rw [lg_len]; simp only [List.map_cons, List.map_nil, cat_rf]; exact Nat.le_of_ble_eq_true rfl)) ?_
  unfold F_X11_freeReceiptsOf
  refine ok_iconst (v := (0 : Int32)) (dd TX11_freeReceiptsOf_0 0 rfl) (by decide) ?_
  refine ok_istore_n (lv' := [(2, .int (0 : Int32)), (0, va_rf (some this)), (1, .int p0)]) (dd TX11_freeReceiptsOf_0 1 rfl) (by decide) (by first | rfl | (simp only [List.filter, cat_rf]; rfl)) ?_
  refine ok_iconst (v := (0 : Int32)) (dd TX11_freeReceiptsOf_0 2 rfl) (by decide) ?_
  refine ok_istore_n (lv' := [(3, .int (0 : Int32)), (2, .int (0 : Int32)), (0, va_rf (some this)), (1, .int p0)]) (dd TX11_freeReceiptsOf_0 3 rfl) (by decide) (by first | rfl | (simp only [List.filter, cat_rf]; rfl)) ?_
  refine ok_sub [2, 3, 1, 0] rfl ?_
  exact O_X11_freeReceiptsOf_L4 Γ FU this p0 (0 : Int32) (0 : Int32)
def F_X11_receiptsBut_L51 (k4 : Nat → Int32 → Int32 → Int32 → M Int32) (this : Nat) (x1 : Int32) (x3 : Int32) (y0 : Int32) (y1 : Int32) : M Int32 := k4 this x1 (y1 + y0) (x3 + (1 : Int32))
set_option maxRecDepth 100000 in
theorem O_X11_receiptsBut_L51 (Γ : Gam) (k4 : Nat → Int32 → Int32 → Int32 → M Int32) (hk4 : ∀ (z0 : Nat) (z1 : Int32) (z2 : Int32) (z3 : Int32), Ok Γ mX11_receiptsBut 3 (qo Γ vI) 4 [(0, va_rf (some z0)), (1, .int z1), (2, .int z2), (3, .int z3)] [] (k4 z0 z1 z2 z3)) (this : Nat) (x1 : Int32) (x3 : Int32) (y0 : Int32) (y1 : Int32) : Ok Γ mX11_receiptsBut 3 (qo Γ vI) 51 [(0, va_rf (some this)), (1, .int x1), (3, .int x3)] [.int y0, .int y1] (F_X11_receiptsBut_L51 k4 this x1 x3 y0 y1) := by
  unfold F_X11_receiptsBut_L51
  refine ok_iadd (dd TX11_receiptsBut_0 26 rfl) ?_
  refine ok_istore_n (lv' := [(2, .int (y1 + y0)), (0, va_rf (some this)), (1, .int x1), (3, .int x3)]) (dd TX11_receiptsBut_0 27 rfl) (by decide) (by first | rfl | (simp only [List.filter, cat_rf]; rfl)) ?_
  refine ok_iinc (lv' := [(3, .int (x3 + (1 : Int32))), (2, .int (y1 + y0)), (0, va_rf (some this)), (1, .int x1)]) (dd TX11_receiptsBut_0 28 rfl) 3 rfl (congrArg (fun q : Int32 => x3 + q) (show Int32.ofInt (1) = (1 : Int32) from by decide)) (by decide) (by first | rfl | (simp only [List.filter, cat_rf]; rfl)) ?_
  refine ok_goto (tgt := 4) (dd TX11_receiptsBut_0 29 rfl) (by decide) ?_
  refine ok_sub [2, 3, 1, 0] rfl ?_
  exact hk4 this x1 (y1 + y0) (x3 + (1 : Int32))
def F_X11_receiptsBut_L50 (k4 : Nat → Int32 → Int32 → Int32 → M Int32) (this : Nat) (x1 : Int32) (x3 : Int32) (y0 : Int32) : M Int32 := F_X11_receiptsBut_L51 k4 this x1 x3 (0 : Int32) y0
set_option maxRecDepth 100000 in
theorem O_X11_receiptsBut_L50 (Γ : Gam) (k4 : Nat → Int32 → Int32 → Int32 → M Int32) (hk4 : ∀ (z0 : Nat) (z1 : Int32) (z2 : Int32) (z3 : Int32), Ok Γ mX11_receiptsBut 3 (qo Γ vI) 4 [(0, va_rf (some z0)), (1, .int z1), (2, .int z2), (3, .int z3)] [] (k4 z0 z1 z2 z3)) (this : Nat) (x1 : Int32) (x3 : Int32) (y0 : Int32) : Ok Γ mX11_receiptsBut 3 (qo Γ vI) 50 [(0, va_rf (some this)), (1, .int x1), (3, .int x3)] [.int y0] (F_X11_receiptsBut_L50 k4 this x1 x3 y0) := by
  unfold F_X11_receiptsBut_L50
  refine ok_iconst (v := (0 : Int32)) (dd TX11_receiptsBut_0 25 rfl) (by decide) ?_
  exact O_X11_receiptsBut_L51 Γ k4 hk4 this x1 x3 (0 : Int32) y0
def F_X11_receiptsBut_L4 : Nat → Nat → Int32 → Int32 → Int32 → M Int32
  | 0 => fun _ _ _ _ => fl
  | n + 1 => fun this x1 x2 x3 => bn (gP 11 5 (some this)) fun v1 => bn (pRc 13 v1) fun b2 => bn (F_Jx4a65c_size_8abf5 b2) fun v3 => if v3 ≤ x3 then rt x2 else bn (gP 11 5 (some this)) fun v4 => bn (pRc 13 v4) fun b5 => bn (F_Jx4a65c_get_915e3 b5 x3) fun v6 => bn (cst 5 v6) fun _ => bn (gI 5 3 v6) fun v7 => if v7 = 0 then F_X11_receiptsBut_L50 (F_X11_receiptsBut_L4 n) this x1 x3 x2 else bn (gI 5 2 v6) fun v8 => if v8 = x1 then F_X11_receiptsBut_L50 (F_X11_receiptsBut_L4 n) this x1 x3 x2 else F_X11_receiptsBut_L51 (F_X11_receiptsBut_L4 n) this x1 x3 (1 : Int32) x2
set_option maxRecDepth 100000 in
theorem O_X11_receiptsBut_L4 (Γ : Gam) (n : Nat) : ∀ (this : Nat) (x1 : Int32) (x2 : Int32) (x3 : Int32), Ok Γ mX11_receiptsBut 3 (qo Γ vI) 4 [(0, va_rf (some this)), (1, .int x1), (2, .int x2), (3, .int x3)] [] (F_X11_receiptsBut_L4 n this x1 x2 x3) := by
  induction n with
  | zero => intro this x1 x2 x3; exact ok_fl
  | succ n ih =>
    intro this x1 x2 x3
    rw [F_X11_receiptsBut_L4]
    refine ok_iload_n (dd TX11_receiptsBut_0 4 rfl) 3 rfl ?_
    refine ok_aload_n (dd TX11_receiptsBut_0 5 rfl) 0 rfl ?_
    refine ok_gP fl_RX11_40 rfl (dd TX11_receiptsBut_0 6 rfl) (fun v1 => ?_)
    refine ok_callVI (cn := 13) [] [.int x3] (fun b2 => C_Jx4a65c_size_8abf5 Γ b2) rfl cy_Jx4a65c_size_8abf5 ml_RX11_85 im_Jx4a65c_size_8abf5 se_Jx4a65c_size_8abf5 (by decide) (Nat.le_of_ble_eq_true rfl) rfl (dd TX11_receiptsBut_0 7 rfl) (fun v3 => ?_)
    refine ok_icmp_ge (tgt := 59) (dd TX11_receiptsBut_0 8 rfl) (by decide) ?_ ?_
    · refine ok_iload_n (dd TX11_receiptsBut_0 30 rfl) 2 rfl ?_
      exact ok_ireturn (dd TX11_receiptsBut_0 31 rfl) rfl
    · refine ok_aload_n (dd TX11_receiptsBut_0 9 rfl) 0 rfl ?_
      refine ok_gP fl_RX11_40 rfl (dd TX11_receiptsBut_0 10 rfl) (fun v4 => ?_)
      refine ok_iload_n (dd TX11_receiptsBut_0 11 rfl) 3 rfl ?_
      refine ok_callVR (cn := 13) [.int x3] [] (fun b5 => C_Jx4a65c_get_915e3 Γ b5 x3) rfl cy_Jx4a65c_get_915e3 ml_RX11_139 im_Jx4a65c_get_915e3 se_Jx4a65c_get_915e3 (by decide) (Nat.le_of_ble_eq_true rfl) rfl (dd TX11_receiptsBut_0 12 rfl) (fun v6 => ?_)
      refine ok_cst (cn := 5) rfl cl_RX11_253 (dd TX11_receiptsBut_0 13 rfl) ?_
      refine ok_astore (lv' := [(4, va_rf v6), (0, va_rf (some this)), (1, .int x1), (2, .int x2), (3, .int x3)]) (dd TX11_receiptsBut_0 14 rfl) (by decide) (by first | rfl | (simp only [List.filter, cat_rf]; rfl)) ?_
      refine ok_iload_n (dd TX11_receiptsBut_0 15 rfl) 3 rfl ?_
      refine ok_aload (dd TX11_receiptsBut_0 16 rfl) 0 rfl ?_
      refine ok_gZ fl_RX11_262 rfl (dd TX11_receiptsBut_0 17 rfl) (fun v7 => ?_)
      refine ok_if_eq (tgt := 50) (dd TX11_receiptsBut_0 18 rfl) (by decide) ?_ ?_
      · refine ok_sub [1, 2, 4] rfl ?_
        exact O_X11_receiptsBut_L50 Γ (F_X11_receiptsBut_L4 n) ih this x1 x3 x2
      · refine ok_aload (dd TX11_receiptsBut_0 19 rfl) 0 rfl ?_
        refine ok_gI fl_RX11_265 rfl (dd TX11_receiptsBut_0 20 rfl) (fun v8 => ?_)
        refine ok_iload_n (dd TX11_receiptsBut_0 21 rfl) 2 rfl ?_
        refine ok_icmp_eq (tgt := 50) (dd TX11_receiptsBut_0 22 rfl) (by decide) ?_ ?_
        · refine ok_sub [1, 2, 4] rfl ?_
          exact O_X11_receiptsBut_L50 Γ (F_X11_receiptsBut_L4 n) ih this x1 x3 x2
        · refine ok_iconst (v := (1 : Int32)) (dd TX11_receiptsBut_0 23 rfl) (by decide) ?_
          refine ok_goto (tgt := 51) (dd TX11_receiptsBut_0 24 rfl) (by decide) ?_
          refine ok_sub [1, 2, 4] rfl ?_
          exact O_X11_receiptsBut_L51 Γ (F_X11_receiptsBut_L4 n) ih this x1 x3 (1 : Int32) x2
def F_X11_receiptsBut (this : Nat) (p0 : Int32) : M Int32 := F_X11_receiptsBut_L4 FU this p0 (0 : Int32) (0 : Int32)
set_option maxRecDepth 100000 in
theorem C_X11_receiptsBut (Γ : Gam) (this : Nat) (p0 : Int32) : Ct Γ mX11_receiptsBut 3 vI [va_rf (some this), .int p0] (F_X11_receiptsBut this p0) := by
  refine ct_in (lv := [(0, va_rf (some this)), (1, .int p0)]) (by decide) (by first | rfl | (simp only [lv_args, cat_rf]; rfl)) (by first | exact Nat.le_of_ble_eq_true rfl | (rw [lg_len]; simp only [List.map_cons, List.map_nil, cat_rf]; exact Nat.le_of_ble_eq_true rfl)) ?_
  unfold F_X11_receiptsBut
  refine ok_iconst (v := (0 : Int32)) (dd TX11_receiptsBut_0 0 rfl) (by decide) ?_
  refine ok_istore_n (lv' := [(2, .int (0 : Int32)), (0, va_rf (some this)), (1, .int p0)]) (dd TX11_receiptsBut_0 1 rfl) (by decide) (by first | rfl | (simp only [List.filter, cat_rf]; rfl)) ?_
  refine ok_iconst (v := (0 : Int32)) (dd TX11_receiptsBut_0 2 rfl) (by decide) ?_
  refine ok_istore_n (lv' := [(3, .int (0 : Int32)), (2, .int (0 : Int32)), (0, va_rf (some this)), (1, .int p0)]) (dd TX11_receiptsBut_0 3 rfl) (by decide) (by first | rfl | (simp only [List.filter, cat_rf]; rfl)) ?_
  refine ok_sub [2, 3, 1, 0] rfl ?_
  exact O_X11_receiptsBut_L4 Γ FU this p0 (0 : Int32) (0 : Int32)
def F_X11_heldOf_L64 (k5 : Nat → Int32 → Int32 → Int32 → Int32 → M Int32) (this : Nat) (x1 : Int32) (x2 : Int32) (x4 : Int32) (y0 : Int32) (y1 : Int32) : M Int32 := k5 this x1 x2 (y1 + y0) (x4 + (1 : Int32))
set_option maxRecDepth 100000 in
theorem O_X11_heldOf_L64 (Γ : Gam) (k5 : Nat → Int32 → Int32 → Int32 → Int32 → M Int32) (hk5 : ∀ (z0 : Nat) (z1 : Int32) (z2 : Int32) (z3 : Int32) (z4 : Int32), Ok Γ mX11_heldOf 3 (qo Γ vI) 5 [(0, va_rf (some z0)), (1, .int z1), (2, .int z2), (3, .int z3), (4, .int z4)] [] (k5 z0 z1 z2 z3 z4)) (this : Nat) (x1 : Int32) (x2 : Int32) (x4 : Int32) (y0 : Int32) (y1 : Int32) : Ok Γ mX11_heldOf 3 (qo Γ vI) 64 [(0, va_rf (some this)), (1, .int x1), (2, .int x2), (4, .int x4)] [.int y0, .int y1] (F_X11_heldOf_L64 k5 this x1 x2 x4 y0 y1) := by
  unfold F_X11_heldOf_L64
  refine ok_iadd (dd TX11_heldOf_0 31 rfl) ?_
  refine ok_istore_n (lv' := [(3, .int (y1 + y0)), (0, va_rf (some this)), (1, .int x1), (2, .int x2), (4, .int x4)]) (dd TX11_heldOf_0 32 rfl) (by decide) (by first | rfl | (simp only [List.filter, cat_rf]; rfl)) ?_
  refine ok_iinc (lv' := [(4, .int (x4 + (1 : Int32))), (3, .int (y1 + y0)), (0, va_rf (some this)), (1, .int x1), (2, .int x2)]) (dd TX11_heldOf_0 33 rfl) 4 rfl (congrArg (fun q : Int32 => x4 + q) (show Int32.ofInt (1) = (1 : Int32) from by decide)) (by decide) (by first | rfl | (simp only [List.filter, cat_rf]; rfl)) ?_
  refine ok_goto (tgt := 5) (dd TX11_heldOf_0 34 rfl) (by decide) ?_
  refine ok_sub [2, 3, 4, 1, 0] rfl ?_
  exact hk5 this x1 x2 (y1 + y0) (x4 + (1 : Int32))
def F_X11_heldOf_L63 (k5 : Nat → Int32 → Int32 → Int32 → Int32 → M Int32) (this : Nat) (x1 : Int32) (x2 : Int32) (x4 : Int32) (y0 : Int32) : M Int32 := F_X11_heldOf_L64 k5 this x1 x2 x4 (0 : Int32) y0
set_option maxRecDepth 100000 in
theorem O_X11_heldOf_L63 (Γ : Gam) (k5 : Nat → Int32 → Int32 → Int32 → Int32 → M Int32) (hk5 : ∀ (z0 : Nat) (z1 : Int32) (z2 : Int32) (z3 : Int32) (z4 : Int32), Ok Γ mX11_heldOf 3 (qo Γ vI) 5 [(0, va_rf (some z0)), (1, .int z1), (2, .int z2), (3, .int z3), (4, .int z4)] [] (k5 z0 z1 z2 z3 z4)) (this : Nat) (x1 : Int32) (x2 : Int32) (x4 : Int32) (y0 : Int32) : Ok Γ mX11_heldOf 3 (qo Γ vI) 63 [(0, va_rf (some this)), (1, .int x1), (2, .int x2), (4, .int x4)] [.int y0] (F_X11_heldOf_L63 k5 this x1 x2 x4 y0) := by
  unfold F_X11_heldOf_L63
  refine ok_iconst (v := (0 : Int32)) (dd TX11_heldOf_0 30 rfl) (by decide) ?_
  exact O_X11_heldOf_L64 Γ k5 hk5 this x1 x2 x4 (0 : Int32) y0
def F_X11_heldOf_L5 : Nat → Nat → Int32 → Int32 → Int32 → Int32 → M Int32
  | 0 => fun _ _ _ _ _ => fl
  | n + 1 => fun this x1 x2 x3 x4 => bn (gP 11 6 (some this)) fun v1 => bn (pRc 13 v1) fun b2 => bn (F_Jx4a65c_size_8abf5 b2) fun v3 => if v3 ≤ x4 then rt x3 else bn (gP 11 6 (some this)) fun v4 => bn (pRc 13 v4) fun b5 => bn (F_Jx4a65c_get_915e3 b5 x4) fun v6 => bn (cst 3 v6) fun _ => bn (gI 3 5 v6) fun v7 => if ¬ v7 = (1 : Int32) then F_X11_heldOf_L63 (F_X11_heldOf_L5 n) this x1 x2 x4 x3 else bn (gI 3 0 v6) fun v8 => if ¬ v8 = x1 then F_X11_heldOf_L63 (F_X11_heldOf_L5 n) this x1 x2 x4 x3 else bn (gI 3 1 v6) fun v9 => if ¬ v9 = x2 then F_X11_heldOf_L63 (F_X11_heldOf_L5 n) this x1 x2 x4 x3 else F_X11_heldOf_L64 (F_X11_heldOf_L5 n) this x1 x2 x4 (1 : Int32) x3
set_option maxRecDepth 100000 in
theorem O_X11_heldOf_L5 (Γ : Gam) (n : Nat) : ∀ (this : Nat) (x1 : Int32) (x2 : Int32) (x3 : Int32) (x4 : Int32), Ok Γ mX11_heldOf 3 (qo Γ vI) 5 [(0, va_rf (some this)), (1, .int x1), (2, .int x2), (3, .int x3), (4, .int x4)] [] (F_X11_heldOf_L5 n this x1 x2 x3 x4) := by
  induction n with
  | zero => intro this x1 x2 x3 x4; exact ok_fl
  | succ n ih =>
    intro this x1 x2 x3 x4
    rw [F_X11_heldOf_L5]
    refine ok_iload (dd TX11_heldOf_0 4 rfl) 4 rfl ?_
    refine ok_aload_n (dd TX11_heldOf_0 5 rfl) 0 rfl ?_
    refine ok_gP fl_RX11_43 rfl (dd TX11_heldOf_0 6 rfl) (fun v1 => ?_)
    refine ok_callVI (cn := 13) [] [.int x4] (fun b2 => C_Jx4a65c_size_8abf5 Γ b2) rfl cy_Jx4a65c_size_8abf5 ml_RX11_85 im_Jx4a65c_size_8abf5 se_Jx4a65c_size_8abf5 (by decide) (Nat.le_of_ble_eq_true rfl) rfl (dd TX11_heldOf_0 7 rfl) (fun v3 => ?_)
    refine ok_icmp_ge (tgt := 72) (dd TX11_heldOf_0 8 rfl) (by decide) ?_ ?_
    · refine ok_iload_n (dd TX11_heldOf_0 35 rfl) 3 rfl ?_
      exact ok_ireturn (dd TX11_heldOf_0 36 rfl) rfl
    · refine ok_aload_n (dd TX11_heldOf_0 9 rfl) 0 rfl ?_
      refine ok_gP fl_RX11_43 rfl (dd TX11_heldOf_0 10 rfl) (fun v4 => ?_)
      refine ok_iload (dd TX11_heldOf_0 11 rfl) 4 rfl ?_
      refine ok_callVR (cn := 13) [.int x4] [] (fun b5 => C_Jx4a65c_get_915e3 Γ b5 x4) rfl cy_Jx4a65c_get_915e3 ml_RX11_139 im_Jx4a65c_get_915e3 se_Jx4a65c_get_915e3 (by decide) (Nat.le_of_ble_eq_true rfl) rfl (dd TX11_heldOf_0 12 rfl) (fun v6 => ?_)
      refine ok_cst (cn := 3) rfl cl_RX11_278 (dd TX11_heldOf_0 13 rfl) ?_
      refine ok_astore (lv' := [(5, va_rf v6), (0, va_rf (some this)), (1, .int x1), (2, .int x2), (3, .int x3), (4, .int x4)]) (dd TX11_heldOf_0 14 rfl) (by decide) (by first | rfl | (simp only [List.filter, cat_rf]; rfl)) ?_
      refine ok_iload_n (dd TX11_heldOf_0 15 rfl) 4 rfl ?_
      refine ok_aload (dd TX11_heldOf_0 16 rfl) 0 rfl ?_
      refine ok_gI fl_RX11_305 rfl (dd TX11_heldOf_0 17 rfl) (fun v7 => ?_)
      refine ok_iconst (v := (1 : Int32)) (dd TX11_heldOf_0 18 rfl) (by decide) ?_
      refine ok_icmp_ne (tgt := 63) (dd TX11_heldOf_0 19 rfl) (by decide) ?_ ?_
      · refine ok_sub [1, 2, 3, 5] rfl ?_
        exact O_X11_heldOf_L63 Γ (F_X11_heldOf_L5 n) ih this x1 x2 x4 x3
      · refine ok_aload (dd TX11_heldOf_0 20 rfl) 0 rfl ?_
        refine ok_gI fl_RX11_299 rfl (dd TX11_heldOf_0 21 rfl) (fun v8 => ?_)
        refine ok_iload_n (dd TX11_heldOf_0 22 rfl) 2 rfl ?_
        refine ok_icmp_ne (tgt := 63) (dd TX11_heldOf_0 23 rfl) (by decide) ?_ ?_
        · refine ok_sub [1, 2, 3, 5] rfl ?_
          exact O_X11_heldOf_L63 Γ (F_X11_heldOf_L5 n) ih this x1 x2 x4 x3
        · refine ok_aload (dd TX11_heldOf_0 24 rfl) 0 rfl ?_
          refine ok_gI fl_RX11_292 rfl (dd TX11_heldOf_0 25 rfl) (fun v9 => ?_)
          refine ok_iload_n (dd TX11_heldOf_0 26 rfl) 3 rfl ?_
          refine ok_icmp_ne (tgt := 63) (dd TX11_heldOf_0 27 rfl) (by decide) ?_ ?_
          · refine ok_sub [1, 2, 3, 5] rfl ?_
            exact O_X11_heldOf_L63 Γ (F_X11_heldOf_L5 n) ih this x1 x2 x4 x3
          · refine ok_iconst (v := (1 : Int32)) (dd TX11_heldOf_0 28 rfl) (by decide) ?_
            refine ok_goto (tgt := 64) (dd TX11_heldOf_0 29 rfl) (by decide) ?_
            refine ok_sub [1, 2, 3, 5] rfl ?_
            exact O_X11_heldOf_L64 Γ (F_X11_heldOf_L5 n) ih this x1 x2 x4 (1 : Int32) x3
def F_X11_heldOf (this : Nat) (p0 : Int32) (p1 : Int32) : M Int32 := F_X11_heldOf_L5 FU this p0 p1 (0 : Int32) (0 : Int32)
set_option maxRecDepth 100000 in
theorem C_X11_heldOf (Γ : Gam) (this : Nat) (p0 : Int32) (p1 : Int32) : Ct Γ mX11_heldOf 3 vI [va_rf (some this), .int p0, .int p1] (F_X11_heldOf this p0 p1) := by
  refine ct_in (lv := [(0, va_rf (some this)), (1, .int p0), (2, .int p1)]) (by decide) (by first | rfl | (simp only [lv_args, cat_rf]; rfl)) (by first | exact Nat.le_of_ble_eq_true rfl | (rw [lg_len]; simp only [List.map_cons, List.map_nil, cat_rf]; exact Nat.le_of_ble_eq_true rfl)) ?_
  unfold F_X11_heldOf
  refine ok_iconst (v := (0 : Int32)) (dd TX11_heldOf_0 0 rfl) (by decide) ?_
  refine ok_istore_n (lv' := [(3, .int (0 : Int32)), (0, va_rf (some this)), (1, .int p0), (2, .int p1)]) (dd TX11_heldOf_0 1 rfl) (by decide) (by first | rfl | (simp only [List.filter, cat_rf]; rfl)) ?_
  refine ok_iconst (v := (0 : Int32)) (dd TX11_heldOf_0 2 rfl) (by decide) ?_
  refine ok_istore (lv' := [(4, .int (0 : Int32)), (3, .int (0 : Int32)), (0, va_rf (some this)), (1, .int p0), (2, .int p1)]) (dd TX11_heldOf_0 3 rfl) (by decide) (by first | rfl | (simp only [List.filter, cat_rf]; rfl)) ?_
  refine ok_sub [2, 3, 4, 1, 0] rfl ?_
  exact O_X11_heldOf_L5 Γ FU this p0 p1 (0 : Int32) (0 : Int32)
def F_X11_nextHolder_L32 : Nat → Option Nat → Option Nat → Int32 → M Int32
  | 0 => fun _ _ _ => fl
  | n + 1 => fun x1 x2 x3 => bn (pRc 13 x2) fun b11 => bn (F_Jx4a65c_size_8abf5 b11) fun v12 => if v12 ≤ x3 then rt (-1 : Int32) else bn (pRc 13 x2) fun b13 => bn (F_Jx4a65c_get_915e3 b13 x3) fun v14 => bn (cst 9 v14) fun _ => bn (gI 9 0 v14) fun v15 => bn (pRc 3 x1) fun b16 => bn (F_X3_wasWith b16 v15) fun v17 => if ¬ v17 = 0 then F_X11_nextHolder_L32 n x1 x2 (x3 + (1 : Int32)) else rt v15
set_option maxRecDepth 100000 in
theorem O_X11_nextHolder_L32 (Γ : Gam) (n : Nat) : ∀ (x1 : Option Nat) (x2 : Option Nat) (x3 : Int32), Ok Γ mX11_nextHolder 4 (qo Γ vI) 32 [(1, va_rf x1), (2, va_rf x2), (3, .int x3)] [] (F_X11_nextHolder_L32 n x1 x2 x3) := by
  induction n with
  | zero => intro x1 x2 x3; exact ok_fl
  | succ n ih =>
    intro x1 x2 x3
    rw [F_X11_nextHolder_L32]
    refine ok_iload_n (dd TX11_nextHolder_0 18 rfl) 2 rfl ?_
    refine ok_aload_n (dd TX11_nextHolder_0 19 rfl) 1 rfl ?_
    refine ok_callVI (cn := 13) [] [.int x3] (fun b11 => C_Jx4a65c_size_8abf5 Γ b11) rfl cy_Jx4a65c_size_8abf5 ml_RX11_85 im_Jx4a65c_size_8abf5 se_Jx4a65c_size_8abf5 (by decide) (Nat.le_of_ble_eq_true rfl) rfl (dd TX11_nextHolder_0 20 rfl) (fun v12 => ?_)
    refine ok_icmp_ge (tgt := 71) (dd TX11_nextHolder_0 21 rfl) (by decide) ?_ ?_
    · refine ok_iconst (v := (-1 : Int32)) (dd TX11_nextHolder_0 36 rfl) (by decide) ?_
      exact ok_ireturn (dd TX11_nextHolder_0 37 rfl) rfl
    · refine ok_aload_n (dd TX11_nextHolder_0 22 rfl) 1 rfl ?_
      refine ok_iload_n (dd TX11_nextHolder_0 23 rfl) 2 rfl ?_
      refine ok_callVR (cn := 13) [.int x3] [] (fun b13 => C_Jx4a65c_get_915e3 Γ b13 x3) rfl cy_Jx4a65c_get_915e3 ml_RX11_139 im_Jx4a65c_get_915e3 se_Jx4a65c_get_915e3 (by decide) (Nat.le_of_ble_eq_true rfl) rfl (dd TX11_nextHolder_0 24 rfl) (fun v14 => ?_)
      refine ok_cst (cn := 9) rfl cl_RX11_115 (dd TX11_nextHolder_0 25 rfl) ?_
      refine ok_gI fl_RX11_143 rfl (dd TX11_nextHolder_0 26 rfl) (fun v15 => ?_)
      refine ok_istore (lv' := [(4, .int v15), (1, va_rf x1), (2, va_rf x2), (3, .int x3)]) (dd TX11_nextHolder_0 27 rfl) (by decide) (by first | rfl | (simp only [List.filter, cat_rf]; rfl)) ?_
      refine ok_aload_n (dd TX11_nextHolder_0 28 rfl) 1 rfl ?_
      refine ok_iload (dd TX11_nextHolder_0 29 rfl) 0 rfl ?_
      refine ok_callVI (cn := 3) [.int v15] [] (fun b16 => C_X3_wasWith Γ b16 v15) rfl cy_X3_wasWith ml_RX11_414 im_X3_wasWith se_X3_wasWith (by decide) (Nat.le_of_ble_eq_true rfl) rfl (dd TX11_nextHolder_0 30 rfl) (fun v17 => ?_)
      refine ok_if_ne (tgt := 65) (dd TX11_nextHolder_0 31 rfl) (by decide) ?_ ?_
      · refine ok_iinc (lv' := [(3, .int (x3 + (1 : Int32))), (4, .int v15), (1, va_rf x1), (2, va_rf x2)]) (dd TX11_nextHolder_0 34 rfl) 3 rfl (congrArg (fun q : Int32 => x3 + q) (show Int32.ofInt (1) = (1 : Int32) from by decide)) (by decide) (by first | rfl | (simp only [List.filter, cat_rf]; rfl)) ?_
        refine ok_goto (tgt := 32) (dd TX11_nextHolder_0 35 rfl) (by decide) ?_
        refine ok_sub [2, 3, 0] rfl ?_
        exact ih x1 x2 (x3 + (1 : Int32))
      · refine ok_iload (dd TX11_nextHolder_0 32 rfl) 0 rfl ?_
        exact ok_ireturn (dd TX11_nextHolder_0 33 rfl) rfl
def F_X11_nextHolder (this : Nat) (p0 : Option Nat) : M Int32 := bn (gP 11 2 (some this)) fun v1 => bn (gI 3 1 p0) fun v2 => bn (lP 157 v1 v2) fun v3 => bn (gP 2 2 v3) fun v4 => bn (gP 11 2 (some this)) fun v5 => bn (gI 3 1 p0) fun v6 => bn (lP 157 v5 v6) fun v7 => bn (gI 3 3 p0) fun v8 => bn (pRc 2 v7) fun b9 => bn (F_X2_firstLongOf b9 v8) fun v10 => F_X11_nextHolder_L32 FU p0 v4 (v10 + (1 : Int32))
set_option maxRecDepth 100000 in
theorem C_X11_nextHolder (Γ : Gam) (this : Nat) (p0 : Option Nat) : Ct Γ mX11_nextHolder 4 vI [va_rf (some this), va_rf p0] (F_X11_nextHolder this p0) := by
  refine ct_in (lv := [(0, va_rf (some this)), (1, va_rf p0)]) (by decide) (by first | rfl | (simp only [lv_args, cat_rf]; rfl)) (by first | exact Nat.le_of_ble_eq_true rfl | (rw [lg_len]; simp only [List.map_cons, List.map_nil, cat_rf]; exact Nat.le_of_ble_eq_true rfl)) ?_
  unfold F_X11_nextHolder
  refine ok_aload_n (dd TX11_nextHolder_0 0 rfl) 0 rfl ?_
  refine ok_gP fl_RX11_25 rfl (dd TX11_nextHolder_0 1 rfl) (fun v1 => ?_)
  refine ok_aload_n (dd TX11_nextHolder_0 2 rfl) 1 rfl ?_
  refine ok_gI fl_RX11_292 rfl (dd TX11_nextHolder_0 3 rfl) (fun v2 => ?_)
  refine ok_lP5 (kd := 157) (by decide) rfl (dd TX11_nextHolder_0 4 rfl) (fun v3 => ?_)
  refine ok_gP fl_RX11_244 rfl (dd TX11_nextHolder_0 5 rfl) (fun v4 => ?_)
  refine ok_astore_n (lv' := [(2, va_rf v4), (0, va_rf (some this)), (1, va_rf p0)]) (dd TX11_nextHolder_0 6 rfl) (by decide) (by first | rfl | (simp only [List.filter, cat_rf]; rfl)) ?_
  refine ok_aload_n (dd TX11_nextHolder_0 7 rfl) 1 rfl ?_
  refine ok_gP fl_RX11_25 rfl (dd TX11_nextHolder_0 8 rfl) (fun v5 => ?_)
  refine ok_aload_n (dd TX11_nextHolder_0 9 rfl) 2 rfl ?_
  refine ok_gI fl_RX11_292 rfl (dd TX11_nextHolder_0 10 rfl) (fun v6 => ?_)
  refine ok_lP5 (kd := 157) (by decide) rfl (dd TX11_nextHolder_0 11 rfl) (fun v7 => ?_)
  refine ok_aload_n (dd TX11_nextHolder_0 12 rfl) 2 rfl ?_
  refine ok_gI fl_RX11_289 rfl (dd TX11_nextHolder_0 13 rfl) (fun v8 => ?_)
  refine ok_callVI (cn := 2) [.int v8] [] (fun b9 => C_X2_firstLongOf Γ b9 v8) rfl cy_X2_firstLongOf ml_RX11_411 im_X2_firstLongOf se_X2_firstLongOf (by decide) (Nat.le_of_ble_eq_true rfl) rfl (dd TX11_nextHolder_0 14 rfl) (fun v10 => ?_)
  refine ok_iconst (v := (1 : Int32)) (dd TX11_nextHolder_0 15 rfl) (by decide) ?_
  refine ok_iadd (dd TX11_nextHolder_0 16 rfl) ?_
  refine ok_istore_n (lv' := [(3, .int (v10 + (1 : Int32))), (2, va_rf v4), (0, va_rf (some this)), (1, va_rf p0)]) (dd TX11_nextHolder_0 17 rfl) (by decide) (by first | rfl | (simp only [List.filter, cat_rf]; rfl)) ?_
  refine ok_sub [3, 1, 0] rfl ?_
  exact O_X11_nextHolder_L32 Γ FU p0 v4 (v10 + (1 : Int32))
def F_X11_dueIn_L4 : Nat → Nat → Int32 → Int32 → Int32 → M Int32
  | 0 => fun _ _ _ _ => fl
  | n + 1 => fun this x1 x2 x3 => bn (gP 11 3 (some this)) fun v1 => bn (pRc 13 v1) fun b2 => bn (F_Jx4a65c_size_8abf5 b2) fun v3 => if v3 ≤ x3 then rt x2 else bn (gP 11 3 (some this)) fun v4 => bn (pRc 13 v4) fun b5 => bn (F_Jx4a65c_get_915e3 b5 x3) fun v6 => bn (cst 1 v6) fun _ => bn (gP 1 0 v6) fun v7 => bn (lI 104 v7 x1) fun v8 => F_X11_dueIn_L4 n this x1 (x2 + (if (0 : Int32) < (-v8) then (-v8) else (0 : Int32))) (x3 + (1 : Int32))
set_option maxRecDepth 100000 in
theorem O_X11_dueIn_L4 (Γ : Gam) (n : Nat) : ∀ (this : Nat) (x1 : Int32) (x2 : Int32) (x3 : Int32), Ok Γ mX11_dueIn 3 (qo Γ vI) 4 [(0, va_rf (some this)), (1, .int x1), (2, .int x2), (3, .int x3)] [] (F_X11_dueIn_L4 n this x1 x2 x3) := by
  induction n with
  | zero => intro this x1 x2 x3; exact ok_fl
  | succ n ih =>
    intro this x1 x2 x3
    rw [F_X11_dueIn_L4]
    refine ok_iload_n (dd TX11_dueIn_0 4 rfl) 3 rfl ?_
    refine ok_aload_n (dd TX11_dueIn_0 5 rfl) 0 rfl ?_
    refine ok_gP fl_RX11_33 rfl (dd TX11_dueIn_0 6 rfl) (fun v1 => ?_)
    refine ok_callVI (cn := 13) [] [.int x3] (fun b2 => C_Jx4a65c_size_8abf5 Γ b2) rfl cy_Jx4a65c_size_8abf5 ml_RX11_85 im_Jx4a65c_size_8abf5 se_Jx4a65c_size_8abf5 (by decide) (Nat.le_of_ble_eq_true rfl) rfl (dd TX11_dueIn_0 7 rfl) (fun v3 => ?_)
    refine ok_icmp_ge (tgt := 45) (dd TX11_dueIn_0 8 rfl) (by decide) ?_ ?_
    · refine ok_iload_n (dd TX11_dueIn_0 25 rfl) 2 rfl ?_
      exact ok_ireturn (dd TX11_dueIn_0 26 rfl) rfl
    · refine ok_iload_n (dd TX11_dueIn_0 9 rfl) 2 rfl ?_
      refine ok_iconst (v := (0 : Int32)) (dd TX11_dueIn_0 10 rfl) (by decide) ?_
      refine ok_aload_n (dd TX11_dueIn_0 11 rfl) 0 rfl ?_
      refine ok_gP fl_RX11_33 rfl (dd TX11_dueIn_0 12 rfl) (fun v4 => ?_)
      refine ok_iload_n (dd TX11_dueIn_0 13 rfl) 3 rfl ?_
      refine ok_callVR (cn := 13) [.int x3] [.int (0 : Int32), .int x2] (fun b5 => C_Jx4a65c_get_915e3 Γ b5 x3) rfl cy_Jx4a65c_get_915e3 ml_RX11_139 im_Jx4a65c_get_915e3 se_Jx4a65c_get_915e3 (by decide) (Nat.le_of_ble_eq_true rfl) rfl (dd TX11_dueIn_0 14 rfl) (fun v6 => ?_)
      refine ok_cst (cn := 1) rfl cl_RX11_89 (dd TX11_dueIn_0 15 rfl) ?_
      refine ok_gP fl_RX11_240 rfl (dd TX11_dueIn_0 16 rfl) (fun v7 => ?_)
      refine ok_iload_n (dd TX11_dueIn_0 17 rfl) 1 rfl ?_
      refine ok_lI (kd := 104) (by decide) rfl (dd TX11_dueIn_0 18 rfl) (fun v8 => ?_)
      refine ok_ineg (dd TX11_dueIn_0 19 rfl) ?_
      refine ok_mmax ml_RX11_375 ms_max w_mi mc_max (by decide) (Nat.le_of_ble_eq_true rfl) (dd TX11_dueIn_0 20 rfl) ?_
      refine ok_iadd (dd TX11_dueIn_0 21 rfl) ?_
      refine ok_istore_n (lv' := [(2, .int (x2 + (if (0 : Int32) < (-v8) then (-v8) else (0 : Int32)))), (0, va_rf (some this)), (1, .int x1), (3, .int x3)]) (dd TX11_dueIn_0 22 rfl) (by decide) (by first | rfl | (simp only [List.filter, cat_rf]; rfl)) ?_
      refine ok_iinc (lv' := [(3, .int (x3 + (1 : Int32))), (2, .int (x2 + (if (0 : Int32) < (-v8) then (-v8) else (0 : Int32)))), (0, va_rf (some this)), (1, .int x1)]) (dd TX11_dueIn_0 23 rfl) 3 rfl (congrArg (fun q : Int32 => x3 + q) (show Int32.ofInt (1) = (1 : Int32) from by decide)) (by decide) (by first | rfl | (simp only [List.filter, cat_rf]; rfl)) ?_
      refine ok_goto (tgt := 4) (dd TX11_dueIn_0 24 rfl) (by decide) ?_
      refine ok_sub [2, 3, 1, 0] rfl ?_
      exact ih this x1 (x2 + (if (0 : Int32) < (-v8) then (-v8) else (0 : Int32))) (x3 + (1 : Int32))
def F_X11_dueIn (this : Nat) (p0 : Int32) : M Int32 := F_X11_dueIn_L4 FU this p0 (0 : Int32) (0 : Int32)
set_option maxRecDepth 100000 in
theorem C_X11_dueIn (Γ : Gam) (this : Nat) (p0 : Int32) : Ct Γ mX11_dueIn 3 vI [va_rf (some this), .int p0] (F_X11_dueIn this p0) := by
  refine ct_in (lv := [(0, va_rf (some this)), (1, .int p0)]) (by decide) (by first | rfl | (simp only [lv_args, cat_rf]; rfl)) (by first | exact Nat.le_of_ble_eq_true rfl | (rw [lg_len]; simp only [List.map_cons, List.map_nil, cat_rf]; exact Nat.le_of_ble_eq_true rfl)) ?_
  unfold F_X11_dueIn
  refine ok_iconst (v := (0 : Int32)) (dd TX11_dueIn_0 0 rfl) (by decide) ?_
  refine ok_istore_n (lv' := [(2, .int (0 : Int32)), (0, va_rf (some this)), (1, .int p0)]) (dd TX11_dueIn_0 1 rfl) (by decide) (by first | rfl | (simp only [List.filter, cat_rf]; rfl)) ?_
  refine ok_iconst (v := (0 : Int32)) (dd TX11_dueIn_0 2 rfl) (by decide) ?_
  refine ok_istore_n (lv' := [(3, .int (0 : Int32)), (2, .int (0 : Int32)), (0, va_rf (some this)), (1, .int p0)]) (dd TX11_dueIn_0 3 rfl) (by decide) (by first | rfl | (simp only [List.filter, cat_rf]; rfl)) ?_
  refine ok_sub [2, 3, 1, 0] rfl ?_
  exact O_X11_dueIn_L4 Γ FU this p0 (0 : Int32) (0 : Int32)
def F_X11_cornerOf_L50 (k7 : Nat → Int32 → Int32 → Int32 → Int32 → M Int32) (this : Nat) (x1 : Int32) (x2 : Int32) (x3 : Int32) (x4 : Int32) : M Int32 := k7 this x1 x2 x3 (x4 + (1 : Int32))
set_option maxRecDepth 100000 in
theorem O_X11_cornerOf_L50 (Γ : Gam) (k7 : Nat → Int32 → Int32 → Int32 → Int32 → M Int32) (hk7 : ∀ (z0 : Nat) (z1 : Int32) (z2 : Int32) (z3 : Int32) (z4 : Int32), Ok Γ mX11_cornerOf 3 (qo Γ vI) 7 [(0, va_rf (some z0)), (1, .int z1), (2, .int z2), (3, .int z3), (4, .int z4)] [] (k7 z0 z1 z2 z3 z4)) (this : Nat) (x1 : Int32) (x2 : Int32) (x3 : Int32) (x4 : Int32) : Ok Γ mX11_cornerOf 3 (qo Γ vI) 50 [(0, va_rf (some this)), (1, .int x1), (2, .int x2), (3, .int x3), (4, .int x4)] [] (F_X11_cornerOf_L50 k7 this x1 x2 x3 x4) := by
  unfold F_X11_cornerOf_L50
  refine ok_iinc (lv' := [(4, .int (x4 + (1 : Int32))), (0, va_rf (some this)), (1, .int x1), (2, .int x2), (3, .int x3)]) (dd TX11_cornerOf_0 27 rfl) 4 rfl (congrArg (fun q : Int32 => x4 + q) (show Int32.ofInt (1) = (1 : Int32) from by decide)) (by decide) (by first | rfl | (simp only [List.filter, cat_rf]; rfl)) ?_
  refine ok_goto (tgt := 7) (dd TX11_cornerOf_0 28 rfl) (by decide) ?_
  refine ok_sub [1, 2, 3, 4, 0] rfl ?_
  exact hk7 this x1 x2 x3 (x4 + (1 : Int32))
def F_X11_cornerOf_L7 : Nat → Nat → Int32 → Int32 → Int32 → Int32 → M Int32
  | 0 => fun _ _ _ _ _ => fl
  | n + 1 => fun this x1 x2 x3 x4 => bn (gP 11 3 (some this)) fun v1 => bn (pRc 13 v1) fun b2 => bn (F_Jx4a65c_size_8abf5 b2) fun v3 => if v3 ≤ x4 then rt x2 else bn (gP 11 3 (some this)) fun v4 => bn (pRc 13 v4) fun b5 => bn (F_Jx4a65c_get_915e3 b5 x4) fun v6 => bn (cst 1 v6) fun _ => bn (gP 1 0 v6) fun v7 => bn (lI 104 v7 x1) fun v8 => if v8 ≤ x3 then F_X11_cornerOf_L50 (F_X11_cornerOf_L7 n) this x1 x2 x3 x4 else F_X11_cornerOf_L50 (F_X11_cornerOf_L7 n) this x1 x4 v8 x4
set_option maxRecDepth 100000 in
theorem O_X11_cornerOf_L7 (Γ : Gam) (n : Nat) : ∀ (this : Nat) (x1 : Int32) (x2 : Int32) (x3 : Int32) (x4 : Int32), Ok Γ mX11_cornerOf 3 (qo Γ vI) 7 [(0, va_rf (some this)), (1, .int x1), (2, .int x2), (3, .int x3), (4, .int x4)] [] (F_X11_cornerOf_L7 n this x1 x2 x3 x4) := by
  induction n with
  | zero => intro this x1 x2 x3 x4; exact ok_fl
  | succ n ih =>
    intro this x1 x2 x3 x4
    rw [F_X11_cornerOf_L7]
    refine ok_iload (dd TX11_cornerOf_0 6 rfl) 4 rfl ?_
    refine ok_aload_n (dd TX11_cornerOf_0 7 rfl) 0 rfl ?_
    refine ok_gP fl_RX11_33 rfl (dd TX11_cornerOf_0 8 rfl) (fun v1 => ?_)
    refine ok_callVI (cn := 13) [] [.int x4] (fun b2 => C_Jx4a65c_size_8abf5 Γ b2) rfl cy_Jx4a65c_size_8abf5 ml_RX11_85 im_Jx4a65c_size_8abf5 se_Jx4a65c_size_8abf5 (by decide) (Nat.le_of_ble_eq_true rfl) rfl (dd TX11_cornerOf_0 9 rfl) (fun v3 => ?_)
    refine ok_icmp_ge (tgt := 56) (dd TX11_cornerOf_0 10 rfl) (by decide) ?_ ?_
    · refine ok_iload_n (dd TX11_cornerOf_0 29 rfl) 2 rfl ?_
      exact ok_ireturn (dd TX11_cornerOf_0 30 rfl) rfl
    · refine ok_aload_n (dd TX11_cornerOf_0 11 rfl) 0 rfl ?_
      refine ok_gP fl_RX11_33 rfl (dd TX11_cornerOf_0 12 rfl) (fun v4 => ?_)
      refine ok_iload (dd TX11_cornerOf_0 13 rfl) 4 rfl ?_
      refine ok_callVR (cn := 13) [.int x4] [] (fun b5 => C_Jx4a65c_get_915e3 Γ b5 x4) rfl cy_Jx4a65c_get_915e3 ml_RX11_139 im_Jx4a65c_get_915e3 se_Jx4a65c_get_915e3 (by decide) (Nat.le_of_ble_eq_true rfl) rfl (dd TX11_cornerOf_0 14 rfl) (fun v6 => ?_)
      refine ok_cst (cn := 1) rfl cl_RX11_89 (dd TX11_cornerOf_0 15 rfl) ?_
      refine ok_gP fl_RX11_240 rfl (dd TX11_cornerOf_0 16 rfl) (fun v7 => ?_)
      refine ok_iload_n (dd TX11_cornerOf_0 17 rfl) 1 rfl ?_
      refine ok_lI (kd := 104) (by decide) rfl (dd TX11_cornerOf_0 18 rfl) (fun v8 => ?_)
      refine ok_istore (lv' := [(5, .int v8), (0, va_rf (some this)), (1, .int x1), (2, .int x2), (3, .int x3), (4, .int x4)]) (dd TX11_cornerOf_0 19 rfl) (by decide) (by first | rfl | (simp only [List.filter, cat_rf]; rfl)) ?_
      refine ok_iload (dd TX11_cornerOf_0 20 rfl) 0 rfl ?_
      refine ok_iload_n (dd TX11_cornerOf_0 21 rfl) 4 rfl ?_
      refine ok_icmp_le (tgt := 50) (dd TX11_cornerOf_0 22 rfl) (by decide) ?_ ?_
      · refine ok_sub [1, 2, 3, 4, 5] rfl ?_
        exact O_X11_cornerOf_L50 Γ (F_X11_cornerOf_L7 n) ih this x1 x2 x3 x4
      · refine ok_iload (dd TX11_cornerOf_0 23 rfl) 0 rfl ?_
        refine ok_istore_n (lv' := [(3, .int v8), (5, .int v8), (0, va_rf (some this)), (1, .int x1), (2, .int x2), (4, .int x4)]) (dd TX11_cornerOf_0 24 rfl) (by decide) (by first | rfl | (simp only [List.filter, cat_rf]; rfl)) ?_
        refine ok_iload (dd TX11_cornerOf_0 25 rfl) 5 rfl ?_
        refine ok_istore_n (lv' := [(2, .int x4), (3, .int v8), (5, .int v8), (0, va_rf (some this)), (1, .int x1), (4, .int x4)]) (dd TX11_cornerOf_0 26 rfl) (by decide) (by first | rfl | (simp only [List.filter, cat_rf]; rfl)) ?_
        refine ok_sub [3, 4, 0, 1, 5] rfl ?_
        exact O_X11_cornerOf_L50 Γ (F_X11_cornerOf_L7 n) ih this x1 x4 v8 x4
def F_X11_cornerOf (this : Nat) (p0 : Int32) : M Int32 := F_X11_cornerOf_L7 FU this p0 (-1 : Int32) (0 : Int32) (0 : Int32)
set_option maxRecDepth 100000 in
theorem C_X11_cornerOf (Γ : Gam) (this : Nat) (p0 : Int32) : Ct Γ mX11_cornerOf 3 vI [va_rf (some this), .int p0] (F_X11_cornerOf this p0) := by
  refine ct_in (lv := [(0, va_rf (some this)), (1, .int p0)]) (by decide) (by first | rfl | (simp only [lv_args, cat_rf]; rfl)) (by first | exact Nat.le_of_ble_eq_true rfl | (rw [lg_len]; simp only [List.map_cons, List.map_nil, cat_rf]; exact Nat.le_of_ble_eq_true rfl)) ?_
  unfold F_X11_cornerOf
  refine ok_iconst (v := (-1 : Int32)) (dd TX11_cornerOf_0 0 rfl) (by decide) ?_
  refine ok_istore_n (lv' := [(2, .int (-1 : Int32)), (0, va_rf (some this)), (1, .int p0)]) (dd TX11_cornerOf_0 1 rfl) (by decide) (by first | rfl | (simp only [List.filter, cat_rf]; rfl)) ?_
  refine ok_iconst (v := (0 : Int32)) (dd TX11_cornerOf_0 2 rfl) (by decide) ?_
  refine ok_istore_n (lv' := [(3, .int (0 : Int32)), (2, .int (-1 : Int32)), (0, va_rf (some this)), (1, .int p0)]) (dd TX11_cornerOf_0 3 rfl) (by decide) (by first | rfl | (simp only [List.filter, cat_rf]; rfl)) ?_
  refine ok_iconst (v := (0 : Int32)) (dd TX11_cornerOf_0 4 rfl) (by decide) ?_
  refine ok_istore (lv' := [(4, .int (0 : Int32)), (3, .int (0 : Int32)), (2, .int (-1 : Int32)), (0, va_rf (some this)), (1, .int p0)]) (dd TX11_cornerOf_0 5 rfl) (by decide) (by first | rfl | (simp only [List.filter, cat_rf]; rfl)) ?_
  refine ok_sub [3, 4, 2, 1, 0] rfl ?_
  exact O_X11_cornerOf_L7 Γ FU this p0 (-1 : Int32) (0 : Int32) (0 : Int32)
def F_X11_isSqueezed (this : Nat) (p0 : Int32) : M Int32 := bn (pRc 11 (some this)) fun b1 => bn (F_X11_cornerOf b1 p0) fun v2 => bn (pRc 11 (some this)) fun b3 => bn (F_X11_memberOf b3 v2) fun v4 => bn (pRc 11 (some this)) fun b5 => bn (F_X11_dueIn b5 p0) fun v6 => if v4 = none then rz (0 : Int32) else bn (pRc 11 (some this)) fun b7 => bn (F_X11_receiptsBut b7 v2) fun v8 => if v6 ≤ v8 then rz (0 : Int32) else bn (gP 1 0 v4) fun v9 => bn (lI 104 v9 p0) fun v10 => if ((2 : Int32) * v10) ≤ v6 then rz (0 : Int32) else rz (1 : Int32)
set_option maxRecDepth 100000 in
theorem C_X11_isSqueezed (Γ : Gam) (this : Nat) (p0 : Int32) : Ct Γ mX11_isSqueezed 4 vI [va_rf (some this), .int p0] (F_X11_isSqueezed this p0) := by
  refine ct_in (lv := [(0, va_rf (some this)), (1, .int p0)]) (by decide) (by first | rfl | (simp only [lv_args, cat_rf]; rfl)) (by first | exact Nat.le_of_ble_eq_true rfl | (rw [lg_len]; simp only [List.map_cons, List.map_nil, cat_rf]; exact Nat.le_of_ble_eq_true rfl)) ?_
  unfold F_X11_isSqueezed
  refine ok_aload_n (dd TX11_isSqueezed_0 0 rfl) 0 rfl ?_
  refine ok_iload_n (dd TX11_isSqueezed_0 1 rfl) 1 rfl ?_
  refine ok_callVI (cn := 11) [.int p0] [] (fun b1 => C_X11_cornerOf Γ b1 p0) rfl cy_X11_cornerOf ml_RX11_320 im_X11_cornerOf se_X11_cornerOf (by decide) (Nat.le_of_ble_eq_true rfl) rfl (dd TX11_isSqueezed_0 2 rfl) (fun v2 => ?_)
  refine ok_istore_n (lv' := [(2, .int v2), (0, va_rf (some this)), (1, .int p0)]) (dd TX11_isSqueezed_0 3 rfl) (by decide) (by first | rfl | (simp only [List.filter, cat_rf]; rfl)) ?_
  refine ok_aload_n (dd TX11_isSqueezed_0 4 rfl) 1 rfl ?_
  refine ok_iload_n (dd TX11_isSqueezed_0 5 rfl) 0 rfl ?_
  refine ok_callVR (cn := 11) [.int v2] [] (fun b3 => C_X11_memberOf Γ b3 v2) rfl cy_X11_memberOf ml_RX11_96 im_X11_memberOf se_X11_memberOf (by decide) (Nat.le_of_ble_eq_true rfl) rfl (dd TX11_isSqueezed_0 6 rfl) (fun v4 => ?_)
  refine ok_astore_n (lv' := [(3, va_rf v4), (2, .int v2), (0, va_rf (some this)), (1, .int p0)]) (dd TX11_isSqueezed_0 7 rfl) (by decide) (by first | rfl | (simp only [List.filter, cat_rf]; rfl)) ?_
  refine ok_aload_n (dd TX11_isSqueezed_0 8 rfl) 2 rfl ?_
  refine ok_iload_n (dd TX11_isSqueezed_0 9 rfl) 3 rfl ?_
  refine ok_callVI (cn := 11) [.int p0] [] (fun b5 => C_X11_dueIn Γ b5 p0) rfl cy_X11_dueIn ml_RX11_317 im_X11_dueIn se_X11_dueIn (by decide) (Nat.le_of_ble_eq_true rfl) rfl (dd TX11_isSqueezed_0 10 rfl) (fun v6 => ?_)
  refine ok_istore (lv' := [(4, .int v6), (3, va_rf v4), (2, .int v2), (0, va_rf (some this)), (1, .int p0)]) (dd TX11_isSqueezed_0 11 rfl) (by decide) (by first | rfl | (simp only [List.filter, cat_rf]; rfl)) ?_
  refine ok_aload_n (dd TX11_isSqueezed_0 12 rfl) 1 rfl ?_
  refine ok_ifnull (tgt := 50) (dd TX11_isSqueezed_0 13 rfl) (by decide) ?_ ?_
  · refine ok_iconst (v := (0 : Int32)) (dd TX11_isSqueezed_0 29 rfl) (by decide) ?_
    exact ok_zreturn (dd TX11_isSqueezed_0 30 rfl) rfl
  · refine ok_iload (dd TX11_isSqueezed_0 14 rfl) 0 rfl ?_
    refine ok_aload_n (dd TX11_isSqueezed_0 15 rfl) 3 rfl ?_
    refine ok_iload_n (dd TX11_isSqueezed_0 16 rfl) 2 rfl ?_
    refine ok_callVI (cn := 11) [.int v2] [.int v6] (fun b7 => C_X11_receiptsBut Γ b7 v2) rfl cy_X11_receiptsBut ml_RX11_323 im_X11_receiptsBut se_X11_receiptsBut (by decide) (Nat.le_of_ble_eq_true rfl) rfl (dd TX11_isSqueezed_0 17 rfl) (fun v8 => ?_)
    refine ok_icmp_le (tgt := 50) (dd TX11_isSqueezed_0 18 rfl) (by decide) ?_ ?_
    · refine ok_iconst (v := (0 : Int32)) (dd TX11_isSqueezed_0 29 rfl) (by decide) ?_
      exact ok_zreturn (dd TX11_isSqueezed_0 30 rfl) rfl
    · refine ok_iconst (v := (2 : Int32)) (dd TX11_isSqueezed_0 19 rfl) (by decide) ?_
      refine ok_aload_n (dd TX11_isSqueezed_0 20 rfl) 1 rfl ?_
      refine ok_gP fl_RX11_240 rfl (dd TX11_isSqueezed_0 21 rfl) (fun v9 => ?_)
      refine ok_iload_n (dd TX11_isSqueezed_0 22 rfl) 4 rfl ?_
      refine ok_lI (kd := 104) (by decide) rfl (dd TX11_isSqueezed_0 23 rfl) (fun v10 => ?_)
      refine ok_imul (dd TX11_isSqueezed_0 24 rfl) ?_
      refine ok_iload (dd TX11_isSqueezed_0 25 rfl) 0 rfl ?_
      refine ok_icmp_le (tgt := 50) (dd TX11_isSqueezed_0 26 rfl) (by decide) ?_ ?_
      · refine ok_iconst (v := (0 : Int32)) (dd TX11_isSqueezed_0 29 rfl) (by decide) ?_
        exact ok_zreturn (dd TX11_isSqueezed_0 30 rfl) rfl
      · refine ok_iconst (v := (1 : Int32)) (dd TX11_isSqueezed_0 27 rfl) (by decide) ?_
        refine ok_goto (tgt := 51) (dd TX11_isSqueezed_0 28 rfl) (by decide) ?_
        exact ok_zreturn (dd TX11_isSqueezed_0 30 rfl) rfl
def F_X12_init (this : Nat) : M Unit := bn (newA 160 (600 : Int32)) fun r1 => bn (wP 12 0 (some this) r1) fun _ => bn (newA 168 (30 : Int32)) fun r2 => bn (wP 12 4 (some this) r2) fun _ => bn (newA 176 (30 : Int32)) fun r3 => bn (wP 12 5 (some this) r3) fun _ => bn (newA 184 (30 : Int32)) fun r4 => bn (wP 12 6 (some this) r4) fun _ => bn (newA 192 (1800 : Int32)) fun r5 => bn (wP 12 7 (some this) r5) fun _ => bn (newA 200 (1800 : Int32)) fun r6 => bn (wP 12 8 (some this) r6) fun _ => bn (newA 209 (12 : Int32)) fun r7 => bn (wP 12 11 (some this) r7) fun _ => bn (newA 218 (12 : Int32)) fun r8 => bn (wP 12 12 (some this) r8) fun _ => bn (newA 226 (12 : Int32)) fun r9 => bn (wP 12 13 (some this) r9) fun _ => bn (newA 232 (72 : Int32)) fun r10 => bn (wP 12 14 (some this) r10) fun _ => bn (newA 241 (72 : Int32)) fun r11 => bn (wP 12 15 (some this) r11) fun _ => bn (newA 248 (9600 : Int32)) fun r12 => bn (wP 12 16 (some this) r12) fun _ => bn (newA 256 (9600 : Int32)) fun r13 => bn (wP 12 17 (some this) r13) fun _ => bn (newA 264 (6 : Int32)) fun r14 => bn (wP 12 18 (some this) r14) fun _ => bn (newA 274 (6 : Int32)) fun r15 => bn (wP 12 19 (some this) r15) fun _ => bn (newA 280 (600 : Int32)) fun r16 => bn (wP 12 20 (some this) r16) fun _ => bn (newA 288 (4900 : Int32)) fun r17 => bn (wP 12 22 (some this) r17) fun _ => bn (newA 296 (906 : Int32)) fun r18 => bn (wP 12 25 (some this) r18) fun _ => bn (newA 305 (1812 : Int32)) fun r19 => bn (wP 12 26 (some this) r19) fun _ => bn (newA 312 (10872 : Int32)) fun r20 => bn (wP 12 27 (some this) r20) fun _ => bn (newA 321 (10872 : Int32)) fun r21 => bn (wP 12 28 (some this) r21) fun _ => bn (newA 328 (400 : Int32)) fun r22 => bn (wP 12 29 (some this) r22) fun _ => bn (newA 336 (240 : Int32)) fun r23 => bn (wP 12 31 (some this) r23) fun _ => bn (newA 344 (560 : Int32)) fun r24 => bn (wP 12 33 (some this) r24) fun _ => bn (newA 352 (6 : Int32)) fun r25 => bn (wP 12 46 (some this) r25) fun _ => bn (newA 360 (6 : Int32)) fun r26 => bn (wP 12 47 (some this) r26) fun _ => rt ()
set_option maxRecDepth 100000 in
theorem C_X12_init (Γ : Gam) (this : Nat) : Ct Γ mX12_init 1 vV [va_rf (some this)] (F_X12_init this) := by
  refine ct_in (lv := [(0, va_rf (some this))]) (by decide) (by first | rfl | (simp only [lv_args, cat_rf]; rfl)) (by first | exact Nat.le_of_ble_eq_true rfl | (rw [lg_len]; simp only [List.map_cons, List.map_nil, cat_rf]; exact Nat.le_of_ble_eq_true rfl)) ?_
  unfold F_X12_init
  refine ok_aload_n (dd TX12_init_0 0 rfl) 0 rfl ?_
  refine ok_objInit ml_RX12_3 w_oi w_oc ⟨_, rfl⟩ (by decide) (Nat.le_of_ble_eq_true rfl) (dd TX12_init_0 1 rfl) ?_
  refine ok_aload_n (dd TX12_init_0 2 rfl) 0 rfl ?_
  refine ok_sipush (v := (600 : Int32)) (dd TX12_init_0 3 rfl) (by decide) ?_
  refine ok_newAI (kd := 160) (by decide) rfl ac_int (dd TX12_init_0 4 rfl) (fun r1 => ?_)
  refine ok_wP fl_RX12_9 (Or.inr ⟨rfl, rfl, rfl⟩) (tyX12_ok 0 (by decide)) rf_arr (by decide) rfl (dd TX12_init_0 5 rfl) ?_
  refine ok_aload_n (dd TX12_init_0 6 rfl) 0 rfl ?_
  refine ok_bipush (v := (30 : Int32)) (dd TX12_init_0 7 rfl) (by decide) ?_
  refine ok_newAI (kd := 168) (by decide) rfl ac_int (dd TX12_init_0 8 rfl) (fun r2 => ?_)
  refine ok_wP fl_RX12_13 (Or.inr ⟨rfl, rfl, rfl⟩) (tyX12_ok 4 (by decide)) rf_arr (by decide) rfl (dd TX12_init_0 9 rfl) ?_
  refine ok_aload_n (dd TX12_init_0 10 rfl) 0 rfl ?_
  refine ok_bipush (v := (30 : Int32)) (dd TX12_init_0 11 rfl) (by decide) ?_
  refine ok_newAI (kd := 176) (by decide) rfl ac_int (dd TX12_init_0 12 rfl) (fun r3 => ?_)
  refine ok_wP fl_RX12_16 (Or.inr ⟨rfl, rfl, rfl⟩) (tyX12_ok 5 (by decide)) rf_arr (by decide) rfl (dd TX12_init_0 13 rfl) ?_
  refine ok_aload_n (dd TX12_init_0 14 rfl) 0 rfl ?_
  refine ok_bipush (v := (30 : Int32)) (dd TX12_init_0 15 rfl) (by decide) ?_
  refine ok_newAI (kd := 184) (by decide) rfl ac_int (dd TX12_init_0 16 rfl) (fun r4 => ?_)
  refine ok_wP fl_RX12_19 (Or.inr ⟨rfl, rfl, rfl⟩) (tyX12_ok 6 (by decide)) rf_arr (by decide) rfl (dd TX12_init_0 17 rfl) ?_
  refine ok_aload_n (dd TX12_init_0 18 rfl) 0 rfl ?_
  refine ok_sipush (v := (1800 : Int32)) (dd TX12_init_0 19 rfl) (by decide) ?_
  refine ok_newAI (kd := 192) (by decide) rfl ac_int (dd TX12_init_0 20 rfl) (fun r5 => ?_)
  refine ok_wP fl_RX12_22 (Or.inr ⟨rfl, rfl, rfl⟩) (tyX12_ok 7 (by decide)) rf_arr (by decide) rfl (dd TX12_init_0 21 rfl) ?_
  refine ok_aload_n (dd TX12_init_0 22 rfl) 0 rfl ?_
  refine ok_sipush (v := (1800 : Int32)) (dd TX12_init_0 23 rfl) (by decide) ?_
  refine ok_newAI (kd := 200) (by decide) rfl ac_int (dd TX12_init_0 24 rfl) (fun r6 => ?_)
  refine ok_wP fl_RX12_25 (Or.inr ⟨rfl, rfl, rfl⟩) (tyX12_ok 8 (by decide)) rf_arr (by decide) rfl (dd TX12_init_0 25 rfl) ?_
  refine ok_aload_n (dd TX12_init_0 26 rfl) 0 rfl ?_
  refine ok_bipush (v := (12 : Int32)) (dd TX12_init_0 27 rfl) (by decide) ?_
  refine ok_newAL (kd := 209) (by decide) rfl ac_long (dd TX12_init_0 28 rfl) (fun r7 => ?_)
  refine ok_wP fl_RX12_28 (Or.inr ⟨rfl, rfl, rfl⟩) (tyX12_ok 11 (by decide)) rf_arr (by decide) rfl (dd TX12_init_0 29 rfl) ?_
  refine ok_aload_n (dd TX12_init_0 30 rfl) 0 rfl ?_
  refine ok_bipush (v := (12 : Int32)) (dd TX12_init_0 31 rfl) (by decide) ?_
  refine ok_newAZ (kd := 218) (by decide) rfl ac_boolean (dd TX12_init_0 32 rfl) (fun r8 => ?_)
  refine ok_wP fl_RX12_32 (Or.inr ⟨rfl, rfl, rfl⟩) (tyX12_ok 12 (by decide)) rf_arr (by decide) rfl (dd TX12_init_0 33 rfl) ?_
  refine ok_aload_n (dd TX12_init_0 34 rfl) 0 rfl ?_
  refine ok_bipush (v := (12 : Int32)) (dd TX12_init_0 35 rfl) (by decide) ?_
  refine ok_newAZ (kd := 226) (by decide) rfl ac_boolean (dd TX12_init_0 36 rfl) (fun r9 => ?_)
  refine ok_wP fl_RX12_36 (Or.inr ⟨rfl, rfl, rfl⟩) (tyX12_ok 13 (by decide)) rf_arr (by decide) rfl (dd TX12_init_0 37 rfl) ?_
  refine ok_aload_n (dd TX12_init_0 38 rfl) 0 rfl ?_
  refine ok_bipush (v := (72 : Int32)) (dd TX12_init_0 39 rfl) (by decide) ?_
  refine ok_newAI (kd := 232) (by decide) rfl ac_int (dd TX12_init_1 0 rfl) (fun r10 => ?_)
  refine ok_wP fl_RX12_39 (Or.inr ⟨rfl, rfl, rfl⟩) (tyX12_ok 14 (by decide)) rf_arr (by decide) rfl (dd TX12_init_1 1 rfl) ?_
  refine ok_aload_n (dd TX12_init_1 2 rfl) 0 rfl ?_
  refine ok_bipush (v := (72 : Int32)) (dd TX12_init_1 3 rfl) (by decide) ?_
  refine ok_newAL (kd := 241) (by decide) rfl ac_long (dd TX12_init_1 4 rfl) (fun r11 => ?_)
  refine ok_wP fl_RX12_42 (Or.inr ⟨rfl, rfl, rfl⟩) (tyX12_ok 15 (by decide)) rf_arr (by decide) rfl (dd TX12_init_1 5 rfl) ?_
  refine ok_aload_n (dd TX12_init_1 6 rfl) 0 rfl ?_
  refine ok_sipush (v := (9600 : Int32)) (dd TX12_init_1 7 rfl) (by decide) ?_
  refine ok_newAI (kd := 248) (by decide) rfl ac_int (dd TX12_init_1 8 rfl) (fun r12 => ?_)
  refine ok_wP fl_RX12_45 (Or.inr ⟨rfl, rfl, rfl⟩) (tyX12_ok 16 (by decide)) rf_arr (by decide) rfl (dd TX12_init_1 9 rfl) ?_
  refine ok_aload_n (dd TX12_init_1 10 rfl) 0 rfl ?_
  refine ok_sipush (v := (9600 : Int32)) (dd TX12_init_1 11 rfl) (by decide) ?_
  refine ok_newAI (kd := 256) (by decide) rfl ac_int (dd TX12_init_1 12 rfl) (fun r13 => ?_)
  refine ok_wP fl_RX12_48 (Or.inr ⟨rfl, rfl, rfl⟩) (tyX12_ok 17 (by decide)) rf_arr (by decide) rfl (dd TX12_init_1 13 rfl) ?_
  refine ok_aload_n (dd TX12_init_1 14 rfl) 0 rfl ?_
  refine ok_bipush (v := (6 : Int32)) (dd TX12_init_1 15 rfl) (by decide) ?_
  refine ok_newAI (kd := 264) (by decide) rfl ac_int (dd TX12_init_1 16 rfl) (fun r14 => ?_)
  refine ok_wP fl_RX12_51 (Or.inr ⟨rfl, rfl, rfl⟩) (tyX12_ok 18 (by decide)) rf_arr (by decide) rfl (dd TX12_init_1 17 rfl) ?_
  refine ok_aload_n (dd TX12_init_1 18 rfl) 0 rfl ?_
  refine ok_bipush (v := (6 : Int32)) (dd TX12_init_1 19 rfl) (by decide) ?_
  refine ok_newAZ (kd := 274) (by decide) rfl ac_boolean (dd TX12_init_1 20 rfl) (fun r15 => ?_)
  refine ok_wP fl_RX12_54 (Or.inr ⟨rfl, rfl, rfl⟩) (tyX12_ok 19 (by decide)) rf_arr (by decide) rfl (dd TX12_init_1 21 rfl) ?_
  refine ok_aload_n (dd TX12_init_1 22 rfl) 0 rfl ?_
  refine ok_sipush (v := (600 : Int32)) (dd TX12_init_1 23 rfl) (by decide) ?_
  refine ok_newAI (kd := 280) (by decide) rfl ac_int (dd TX12_init_1 24 rfl) (fun r16 => ?_)
  refine ok_wP fl_RX12_57 (Or.inr ⟨rfl, rfl, rfl⟩) (tyX12_ok 20 (by decide)) rf_arr (by decide) rfl (dd TX12_init_1 25 rfl) ?_
  refine ok_aload_n (dd TX12_init_1 26 rfl) 0 rfl ?_
  refine ok_sipush (v := (4900 : Int32)) (dd TX12_init_1 27 rfl) (by decide) ?_
  refine ok_newAI (kd := 288) (by decide) rfl ac_int (dd TX12_init_1 28 rfl) (fun r17 => ?_)
  refine ok_wP fl_RX12_60 (Or.inr ⟨rfl, rfl, rfl⟩) (tyX12_ok 22 (by decide)) rf_arr (by decide) rfl (dd TX12_init_1 29 rfl) ?_
  refine ok_aload_n (dd TX12_init_1 30 rfl) 0 rfl ?_
  refine ok_sipush (v := (906 : Int32)) (dd TX12_init_1 31 rfl) (by decide) ?_
  refine ok_newAI (kd := 296) (by decide) rfl ac_int (dd TX12_init_1 32 rfl) (fun r18 => ?_)
  refine ok_wP fl_RX12_63 (Or.inr ⟨rfl, rfl, rfl⟩) (tyX12_ok 25 (by decide)) rf_arr (by decide) rfl (dd TX12_init_1 33 rfl) ?_
  refine ok_aload_n (dd TX12_init_1 34 rfl) 0 rfl ?_
  refine ok_sipush (v := (1812 : Int32)) (dd TX12_init_1 35 rfl) (by decide) ?_
  refine ok_newAL (kd := 305) (by decide) rfl ac_long (dd TX12_init_1 36 rfl) (fun r19 => ?_)
  refine ok_wP fl_RX12_66 (Or.inr ⟨rfl, rfl, rfl⟩) (tyX12_ok 26 (by decide)) rf_arr (by decide) rfl (dd TX12_init_1 37 rfl) ?_
  refine ok_aload_n (dd TX12_init_1 38 rfl) 0 rfl ?_
  refine ok_sipush (v := (10872 : Int32)) (dd TX12_init_1 39 rfl) (by decide) ?_
  refine ok_newAI (kd := 312) (by decide) rfl ac_int (dd TX12_init_2 0 rfl) (fun r20 => ?_)
  refine ok_wP fl_RX12_69 (Or.inr ⟨rfl, rfl, rfl⟩) (tyX12_ok 27 (by decide)) rf_arr (by decide) rfl (dd TX12_init_2 1 rfl) ?_
  refine ok_aload_n (dd TX12_init_2 2 rfl) 0 rfl ?_
  refine ok_sipush (v := (10872 : Int32)) (dd TX12_init_2 3 rfl) (by decide) ?_
  refine ok_newAL (kd := 321) (by decide) rfl ac_long (dd TX12_init_2 4 rfl) (fun r21 => ?_)
  refine ok_wP fl_RX12_72 (Or.inr ⟨rfl, rfl, rfl⟩) (tyX12_ok 28 (by decide)) rf_arr (by decide) rfl (dd TX12_init_2 5 rfl) ?_
  refine ok_aload_n (dd TX12_init_2 6 rfl) 0 rfl ?_
  refine ok_sipush (v := (400 : Int32)) (dd TX12_init_2 7 rfl) (by decide) ?_
  refine ok_newAI (kd := 328) (by decide) rfl ac_int (dd TX12_init_2 8 rfl) (fun r22 => ?_)
  refine ok_wP fl_RX12_75 (Or.inr ⟨rfl, rfl, rfl⟩) (tyX12_ok 29 (by decide)) rf_arr (by decide) rfl (dd TX12_init_2 9 rfl) ?_
  refine ok_aload_n (dd TX12_init_2 10 rfl) 0 rfl ?_
  refine ok_sipush (v := (240 : Int32)) (dd TX12_init_2 11 rfl) (by decide) ?_
  refine ok_newAI (kd := 336) (by decide) rfl ac_int (dd TX12_init_2 12 rfl) (fun r23 => ?_)
  refine ok_wP fl_RX12_78 (Or.inr ⟨rfl, rfl, rfl⟩) (tyX12_ok 31 (by decide)) rf_arr (by decide) rfl (dd TX12_init_2 13 rfl) ?_
  refine ok_aload_n (dd TX12_init_2 14 rfl) 0 rfl ?_
  refine ok_sipush (v := (560 : Int32)) (dd TX12_init_2 15 rfl) (by decide) ?_
  refine ok_newAI (kd := 344) (by decide) rfl ac_int (dd TX12_init_2 16 rfl) (fun r24 => ?_)
  refine ok_wP fl_RX12_81 (Or.inr ⟨rfl, rfl, rfl⟩) (tyX12_ok 33 (by decide)) rf_arr (by decide) rfl (dd TX12_init_2 17 rfl) ?_
  refine ok_aload_n (dd TX12_init_2 18 rfl) 0 rfl ?_
  refine ok_bipush (v := (6 : Int32)) (dd TX12_init_2 19 rfl) (by decide) ?_
  refine ok_newAI (kd := 352) (by decide) rfl ac_int (dd TX12_init_2 20 rfl) (fun r25 => ?_)
  refine ok_wP fl_RX12_84 (Or.inr ⟨rfl, rfl, rfl⟩) (tyX12_ok 46 (by decide)) rf_arr (by decide) rfl (dd TX12_init_2 21 rfl) ?_
  refine ok_aload_n (dd TX12_init_2 22 rfl) 0 rfl ?_
  refine ok_bipush (v := (6 : Int32)) (dd TX12_init_2 23 rfl) (by decide) ?_
  refine ok_newAI (kd := 360) (by decide) rfl ac_int (dd TX12_init_2 24 rfl) (fun r26 => ?_)
  refine ok_wP fl_RX12_87 (Or.inr ⟨rfl, rfl, rfl⟩) (tyX12_ok 47 (by decide)) rf_arr (by decide) rfl (dd TX12_init_2 25 rfl) ?_
  exact ok_return (dd TX12_init_2 26 rfl) rfl
def F_X12_thrown (this : Nat) : M Int32 := bn (gI 12 35 (some this)) fun v1 => rt v1
set_option maxRecDepth 100000 in
theorem C_X12_thrown (Γ : Gam) (this : Nat) : Ct Γ mX12_thrown 0 vI [va_rf (some this)] (F_X12_thrown this) := by
  refine ct_in (lv := [(0, va_rf (some this))]) (by decide) (by first | rfl | (simp only [lv_args, cat_rf]; rfl)) (by first | exact Nat.le_of_ble_eq_true rfl | (rw [lg_len]; simp only [List.map_cons, List.map_nil, cat_rf]; exact Nat.le_of_ble_eq_true rfl)) ?_
  unfold F_X12_thrown
  refine ok_aload_n (dd TX12_thrown_0 0 rfl) 0 rfl ?_
  refine ok_gI fl_RX12_90 rfl (dd TX12_thrown_0 1 rfl) (fun v1 => ?_)
  exact ok_ireturn (dd TX12_thrown_0 2 rfl) rfl
def F_X12_in (p0 : Int64) (p1 : Int64) (p2 : Int64) : M Int32 := if (lg_cmp p0 p1) < 0 then rz (0 : Int32) else if 0 < (lg_cmp p0 p2) then rz (0 : Int32) else rz (1 : Int32)
set_option maxRecDepth 100000 in
theorem C_X12_in (Γ : Gam) (p0 : Int64) (p1 : Int64) (p2 : Int64) : Ct Γ mX12_in 0 vI [.long p0, .long p1, .long p2] (F_X12_in p0 p1 p2) := by
  refine ct_in (lv := [(0, .long p0), (2, .long p1), (4, .long p2)]) (by decide) (by first | rfl | (simp only [lv_args, cat_rf]; rfl)) (by first | exact Nat.le_of_ble_eq_true rfl | (rw [lg_len]; simp only [List.map_cons, List.map_nil, cat_rf]; exact Nat.le_of_ble_eq_true rfl)) ?_
  unfold F_X12_in
  refine ok_lload_n (dd TX12_in_0 0 rfl) 0 rfl ?_
  refine ok_lload_n (dd TX12_in_0 1 rfl) 1 rfl ?_
  refine ok_lcmp (dd TX12_in_0 2 rfl) ?_
  refine ok_if_lt (tgt := 17) (dd TX12_in_0 3 rfl) (by decide) ?_ ?_
  · refine ok_iconst (v := (0 : Int32)) (dd TX12_in_0 10 rfl) (by decide) ?_
    exact ok_zreturn (dd TX12_in_0 11 rfl) rfl
  · refine ok_lload_n (dd TX12_in_0 4 rfl) 0 rfl ?_
    refine ok_lload (dd TX12_in_0 5 rfl) 2 rfl ?_
    refine ok_lcmp (dd TX12_in_0 6 rfl) ?_
    refine ok_if_gt (tgt := 17) (dd TX12_in_0 7 rfl) (by decide) ?_ ?_
    · refine ok_iconst (v := (0 : Int32)) (dd TX12_in_0 10 rfl) (by decide) ?_
      exact ok_zreturn (dd TX12_in_0 11 rfl) rfl
    · refine ok_iconst (v := (1 : Int32)) (dd TX12_in_0 8 rfl) (by decide) ?_
      refine ok_goto (tgt := 18) (dd TX12_in_0 9 rfl) (by decide) ?_
      exact ok_zreturn (dd TX12_in_0 11 rfl) rfl
def F_X12_isMember (this : Nat) (p0 : Int32) : M Int32 := bn (gI 12 10 (some this)) fun v1 => bn (F_X12_in p0.toInt64 (0 : Int64) ((v1 - (1 : Int32)).toInt64)) fun v2 => rz v2
set_option maxRecDepth 100000 in
theorem C_X12_isMember (Γ : Gam) (this : Nat) (p0 : Int32) : Ct Γ mX12_isMember 1 vI [va_rf (some this), .int p0] (F_X12_isMember this p0) := by
  refine ct_in (lv := [(0, va_rf (some this)), (1, .int p0)]) (by decide) (by first | rfl | (simp only [lv_args, cat_rf]; rfl)) (by first | exact Nat.le_of_ble_eq_true rfl | (rw [lg_len]; simp only [List.map_cons, List.map_nil, cat_rf]; exact Nat.le_of_ble_eq_true rfl)) ?_
  unfold F_X12_isMember
  refine ok_iload_n (dd TX12_isMember_0 0 rfl) 1 rfl ?_
  refine ok_i2l (dd TX12_isMember_0 1 rfl) ?_
  refine ok_lconst (v := (0 : Int64)) (dd TX12_isMember_0 2 rfl) (by decide) ?_
  refine ok_aload_n (dd TX12_isMember_0 3 rfl) 0 rfl ?_
  refine ok_gI fl_RX12_94 rfl (dd TX12_isMember_0 4 rfl) (fun v1 => ?_)
  refine ok_iconst (v := (1 : Int32)) (dd TX12_isMember_0 5 rfl) (by decide) ?_
  refine ok_isub (dd TX12_isMember_0 6 rfl) ?_
  refine ok_i2l (dd TX12_isMember_0 7 rfl) ?_
  refine ok_callSI [.long p0.toInt64, .long (0 : Int64), .long ((v1 - (1 : Int32)).toInt64)] [] (C_X12_in Γ p0.toInt64 (0 : Int64) ((v1 - (1 : Int32)).toInt64)) cy_X12_in ml_RX12_97 sm_X12_in (by decide) (Nat.le_of_ble_eq_true rfl) rfl (dd TX12_isMember_0 8 rfl) (fun v2 => ?_)
  exact ok_zreturn (dd TX12_isMember_0 9 rfl) rfl
def F_X12_isMonth (p0 : Int32) : M Int32 := bn (F_X12_in p0.toInt64 (0 : Int64) (5 : Int64)) fun v1 => rz v1
set_option maxRecDepth 100000 in
theorem C_X12_isMonth (Γ : Gam) (p0 : Int32) : Ct Γ mX12_isMonth 1 vI [.int p0] (F_X12_isMonth p0) := by
  refine ct_in (lv := [(0, .int p0)]) (by decide) (by first | rfl | (simp only [lv_args, cat_rf]; rfl)) (by first | exact Nat.le_of_ble_eq_true rfl | (rw [lg_len]; simp only [List.map_cons, List.map_nil, cat_rf]; exact Nat.le_of_ble_eq_true rfl)) ?_
  unfold F_X12_isMonth
  refine ok_iload_n (dd TX12_isMonth_0 0 rfl) 0 rfl ?_
  refine ok_i2l (dd TX12_isMonth_0 1 rfl) ?_
  refine ok_lconst (v := (0 : Int64)) (dd TX12_isMonth_0 2 rfl) (by decide) ?_
  refine ok_ldc2 (v := (5 : Int64)) (dd TX12_isMonth_0 3 rfl) cl2_RX12_101 ?_
  refine ok_callSI [.long p0.toInt64, .long (0 : Int64), .long (5 : Int64)] [] (C_X12_in Γ p0.toInt64 (0 : Int64) (5 : Int64)) cy_X12_in ml_RX12_97 sm_X12_in (by decide) (Nat.le_of_ble_eq_true rfl) rfl (dd TX12_isMonth_0 4 rfl) (fun v1 => ?_)
  exact ok_zreturn (dd TX12_isMonth_0 5 rfl) rfl
def F_X12_lay_L3 : Nat → Nat → Int32 → Int32 → M Unit
  | 0 => fun _ _ _ => fl
  | n + 1 => fun this x1 x2 => if x2 < 0 then rt () else bn (gP 12 0 (some this)) fun v1 => bn (gI 12 1 (some this)) fun v2 => bn (stI 160 v1 v2 ((x1 >>> (x2 &&& 31)) &&& (255 : Int32))) fun _ => bn (gI 12 1 (some this)) fun v3 => bn (wI 12 1 (some this) (v3 + (1 : Int32))) fun _ => F_X12_lay_L3 n this x1 (x2 + (-8 : Int32))
set_option maxRecDepth 100000 in
theorem O_X12_lay_L3 (Γ : Gam) (n : Nat) : ∀ (this : Nat) (x1 : Int32) (x2 : Int32), Ok Γ mX12_lay 0 (qo Γ vV) 3 [(0, va_rf (some this)), (1, .int x1), (2, .int x2)] [] (F_X12_lay_L3 n this x1 x2) := by
  induction n with
  | zero => intro this x1 x2; exact ok_fl
  | succ n ih =>
    intro this x1 x2
    rw [F_X12_lay_L3]
    refine ok_iload_n (dd TX12_lay_0 2 rfl) 2 rfl ?_
    refine ok_if_lt (tgt := 39) (dd TX12_lay_0 3 rfl) (by decide) ?_ ?_
    · exact ok_return (dd TX12_lay_0 22 rfl) rfl
    · refine ok_aload_n (dd TX12_lay_0 4 rfl) 0 rfl ?_
      refine ok_gP fl_RX12_9 rfl (dd TX12_lay_0 5 rfl) (fun v1 => ?_)
      refine ok_aload_n (dd TX12_lay_0 6 rfl) 0 rfl ?_
      refine ok_gI fl_RX12_103 rfl (dd TX12_lay_0 7 rfl) (fun v2 => ?_)
      refine ok_iload_n (dd TX12_lay_0 8 rfl) 1 rfl ?_
      refine ok_iload_n (dd TX12_lay_0 9 rfl) 2 rfl ?_
      refine ok_ishr (dd TX12_lay_0 10 rfl) ?_
      refine ok_sipush (v := (255 : Int32)) (dd TX12_lay_0 11 rfl) (by decide) ?_
      refine ok_iand (dd TX12_lay_0 12 rfl) ?_
      refine ok_stI (kd := 160) (by decide) rfl (dd TX12_lay_0 13 rfl) ?_
      refine ok_aload_n (dd TX12_lay_0 14 rfl) 0 rfl ?_
      refine ok_dup (dd TX12_lay_0 15 rfl) (by first | rfl | exact cat_rf _) ?_
      refine ok_gI fl_RX12_103 rfl (dd TX12_lay_0 16 rfl) (fun v3 => ?_)
      refine ok_iconst (v := (1 : Int32)) (dd TX12_lay_0 17 rfl) (by decide) ?_
      refine ok_iadd (dd TX12_lay_0 18 rfl) ?_
      refine ok_wI fl_RX12_103 (Or.inl rfl) (tyX12_ok 1 (by decide)) (by decide) rfl (dd TX12_lay_0 19 rfl) ?_
      refine ok_iinc (lv' := [(2, .int (x2 + (-8 : Int32))), (0, va_rf (some this)), (1, .int x1)]) (dd TX12_lay_0 20 rfl) 2 rfl (congrArg (fun q : Int32 => x2 + q) (show Int32.ofInt (-8) = (-8 : Int32) from by decide)) (by decide) (by first | rfl | (simp only [List.filter, cat_rf]; rfl)) ?_
      refine ok_goto (tgt := 3) (dd TX12_lay_0 21 rfl) (by decide) ?_
      refine ok_sub [1, 2, 0] rfl ?_
      exact ih this x1 (x2 + (-8 : Int32))
def F_X12_lay (this : Nat) (p0 : Int32) : M Unit := F_X12_lay_L3 FU this p0 (24 : Int32)
set_option maxRecDepth 100000 in
theorem C_X12_lay (Γ : Gam) (this : Nat) (p0 : Int32) : Ct Γ mX12_lay 0 vV [va_rf (some this), .int p0] (F_X12_lay this p0) := by
  refine ct_in (lv := [(0, va_rf (some this)), (1, .int p0)]) (by decide) (by first | rfl | (simp only [lv_args, cat_rf]; rfl)) (by first | exact Nat.le_of_ble_eq_true rfl | (rw [lg_len]; simp only [List.map_cons, List.map_nil, cat_rf]; exact Nat.le_of_ble_eq_true rfl)) ?_
  unfold F_X12_lay
  refine ok_bipush (v := (24 : Int32)) (dd TX12_lay_0 0 rfl) (by decide) ?_
  refine ok_istore_n (lv' := [(2, .int (24 : Int32)), (0, va_rf (some this)), (1, .int p0)]) (dd TX12_lay_0 1 rfl) (by decide) (by first | rfl | (simp only [List.filter, cat_rf]; rfl)) ?_
  refine ok_sub [1, 2, 0] rfl ?_
  exact O_X12_lay_L3 Γ FU this p0 (24 : Int32)
def F_X12_feed (this : Nat) (p0 : Int32) (p1 : Int32) (p2 : Int32) (p3 : Int32) (p4 : Int32) : M Int32 := bn (wI 12 35 (some this) (0 : Int32)) fun _ => bn (gI 12 1 (some this)) fun v1 => if (v1 + (20 : Int32)) ≤ (600 : Int32) then bn (pRc 12 (some this)) fun b2 => bn (F_X12_lay b2 p0) fun _ => bn (pRc 12 (some this)) fun b3 => bn (F_X12_lay b3 p1) fun _ => bn (pRc 12 (some this)) fun b4 => bn (F_X12_lay b4 p2) fun _ => bn (pRc 12 (some this)) fun b5 => bn (F_X12_lay b5 p3) fun _ => bn (pRc 12 (some this)) fun b6 => bn (F_X12_lay b6 p4) fun _ => bn (gI 12 1 (some this)) fun v7 => rt v7 else rt (-1 : Int32)
set_option maxRecDepth 100000 in
theorem C_X12_feed (Γ : Gam) (this : Nat) (p0 : Int32) (p1 : Int32) (p2 : Int32) (p3 : Int32) (p4 : Int32) : Ct Γ mX12_feed 1 vI [va_rf (some this), .int p0, .int p1, .int p2, .int p3, .int p4] (F_X12_feed this p0 p1 p2 p3 p4) := by
  refine ct_in (lv := [(0, va_rf (some this)), (1, .int p0), (2, .int p1), (3, .int p2), (4, .int p3), (5, .int p4)]) (by decide) (by first | rfl | (simp only [lv_args, cat_rf]; rfl)) (by first | exact Nat.le_of_ble_eq_true rfl | (rw [lg_len]; simp only [List.map_cons, List.map_nil, cat_rf]; exact Nat.le_of_ble_eq_true rfl)) ?_
  unfold F_X12_feed
  refine ok_aload_n (dd TX12_feed_0 0 rfl) 0 rfl ?_
  refine ok_iconst (v := (0 : Int32)) (dd TX12_feed_0 1 rfl) (by decide) ?_
  refine ok_wI fl_RX12_90 (Or.inl rfl) (tyX12_ok 35 (by decide)) (by decide) rfl (dd TX12_feed_0 2 rfl) ?_
  refine ok_aload_n (dd TX12_feed_0 3 rfl) 0 rfl ?_
  refine ok_gI fl_RX12_103 rfl (dd TX12_feed_0 4 rfl) (fun v1 => ?_)
  refine ok_bipush (v := (20 : Int32)) (dd TX12_feed_0 5 rfl) (by decide) ?_
  refine ok_iadd (dd TX12_feed_0 6 rfl) ?_
  refine ok_sipush (v := (600 : Int32)) (dd TX12_feed_0 7 rfl) (by decide) ?_
  refine ok_icmp_le (tgt := 20) (dd TX12_feed_0 8 rfl) (by decide) ?_ ?_
  · refine ok_aload_n (dd TX12_feed_0 11 rfl) 0 rfl ?_
    refine ok_iload_n (dd TX12_feed_0 12 rfl) 1 rfl ?_
    refine ok_callVV (cn := 12) [.int p0] [] (fun b2 => C_X12_lay Γ b2 p0) rfl cy_X12_lay ml_RX12_106 im_X12_lay se_X12_lay (by decide) (Nat.le_of_ble_eq_true rfl) rfl (dd TX12_feed_0 13 rfl) ?_
    refine ok_aload_n (dd TX12_feed_0 14 rfl) 0 rfl ?_
    refine ok_iload_n (dd TX12_feed_0 15 rfl) 2 rfl ?_
    refine ok_callVV (cn := 12) [.int p1] [] (fun b3 => C_X12_lay Γ b3 p1) rfl cy_X12_lay ml_RX12_106 im_X12_lay se_X12_lay (by decide) (Nat.le_of_ble_eq_true rfl) rfl (dd TX12_feed_0 16 rfl) ?_
    refine ok_aload_n (dd TX12_feed_0 17 rfl) 0 rfl ?_
    refine ok_iload_n (dd TX12_feed_0 18 rfl) 3 rfl ?_
    refine ok_callVV (cn := 12) [.int p2] [] (fun b4 => C_X12_lay Γ b4 p2) rfl cy_X12_lay ml_RX12_106 im_X12_lay se_X12_lay (by decide) (Nat.le_of_ble_eq_true rfl) rfl (dd TX12_feed_0 19 rfl) ?_
    refine ok_aload_n (dd TX12_feed_0 20 rfl) 0 rfl ?_
    refine ok_iload (dd TX12_feed_0 21 rfl) 4 rfl ?_
    refine ok_callVV (cn := 12) [.int p3] [] (fun b5 => C_X12_lay Γ b5 p3) rfl cy_X12_lay ml_RX12_106 im_X12_lay se_X12_lay (by decide) (Nat.le_of_ble_eq_true rfl) rfl (dd TX12_feed_0 22 rfl) ?_
    refine ok_aload_n (dd TX12_feed_0 23 rfl) 0 rfl ?_
    refine ok_iload (dd TX12_feed_0 24 rfl) 5 rfl ?_
    refine ok_callVV (cn := 12) [.int p4] [] (fun b6 => C_X12_lay Γ b6 p4) rfl cy_X12_lay ml_RX12_106 im_X12_lay se_X12_lay (by decide) (Nat.le_of_ble_eq_true rfl) rfl (dd TX12_feed_0 25 rfl) ?_
    refine ok_aload_n (dd TX12_feed_0 26 rfl) 0 rfl ?_
    refine ok_gI fl_RX12_103 rfl (dd TX12_feed_0 27 rfl) (fun v7 => ?_)
    exact ok_ireturn (dd TX12_feed_0 28 rfl) rfl
  · refine ok_iconst (v := (-1 : Int32)) (dd TX12_feed_0 9 rfl) (by decide) ?_
    exact ok_ireturn (dd TX12_feed_0 10 rfl) rfl
def F_X12_end (this : Nat) (p0 : Int32) : M Int32 := bn (wI 12 35 (some this) (0 : Int32)) fun _ => if p0 < 0 then rz (0 : Int32) else bn (gI 12 1 (some this)) fun v1 => if p0 ≤ v1 then bn (wI 12 1 (some this) p0) fun _ => rz (1 : Int32) else rz (0 : Int32)
set_option maxRecDepth 100000 in
theorem C_X12_end (Γ : Gam) (this : Nat) (p0 : Int32) : Ct Γ mX12_end 0 vI [va_rf (some this), .int p0] (F_X12_end this p0) := by
  refine ct_in (lv := [(0, va_rf (some this)), (1, .int p0)]) (by decide) (by first | rfl | (simp only [lv_args, cat_rf]; rfl)) (by first | exact Nat.le_of_ble_eq_true rfl | (rw [lg_len]; simp only [List.map_cons, List.map_nil, cat_rf]; exact Nat.le_of_ble_eq_true rfl)) ?_
  unfold F_X12_end
  refine ok_aload_n (dd TX12_end_0 0 rfl) 0 rfl ?_
  refine ok_iconst (v := (0 : Int32)) (dd TX12_end_0 1 rfl) (by decide) ?_
  refine ok_wI fl_RX12_90 (Or.inl rfl) (tyX12_ok 35 (by decide)) (by decide) rfl (dd TX12_end_0 2 rfl) ?_
  refine ok_iload_n (dd TX12_end_0 3 rfl) 1 rfl ?_
  refine ok_if_lt (tgt := 17) (dd TX12_end_0 4 rfl) (by decide) ?_ ?_
  · refine ok_iconst (v := (0 : Int32)) (dd TX12_end_0 9 rfl) (by decide) ?_
    exact ok_zreturn (dd TX12_end_0 10 rfl) rfl
  · refine ok_iload_n (dd TX12_end_0 5 rfl) 1 rfl ?_
    refine ok_aload_n (dd TX12_end_0 6 rfl) 0 rfl ?_
    refine ok_gI fl_RX12_103 rfl (dd TX12_end_0 7 rfl) (fun v1 => ?_)
    refine ok_icmp_le (tgt := 19) (dd TX12_end_0 8 rfl) (by decide) ?_ ?_
    · refine ok_aload_n (dd TX12_end_0 11 rfl) 0 rfl ?_
      refine ok_iload_n (dd TX12_end_0 12 rfl) 1 rfl ?_
      refine ok_wI fl_RX12_103 (Or.inl rfl) (tyX12_ok 1 (by decide)) (by decide) rfl (dd TX12_end_0 13 rfl) ?_
      refine ok_iconst (v := (1 : Int32)) (dd TX12_end_0 14 rfl) (by decide) ?_
      exact ok_zreturn (dd TX12_end_0 15 rfl) rfl
    · refine ok_iconst (v := (0 : Int32)) (dd TX12_end_0 9 rfl) (by decide) ?_
      exact ok_zreturn (dd TX12_end_0 10 rfl) rfl
def F_X12_isLetter (p0 : Int32) : M Int32 := if p0 < (97 : Int32) then rz (0 : Int32) else if (122 : Int32) < p0 then rz (0 : Int32) else rz (1 : Int32)
set_option maxRecDepth 100000 in
theorem C_X12_isLetter (Γ : Gam) (p0 : Int32) : Ct Γ mX12_isLetter 0 vI [.int p0] (F_X12_isLetter p0) := by
  refine ct_in (lv := [(0, .int p0)]) (by decide) (by first | rfl | (simp only [lv_args, cat_rf]; rfl)) (by first | exact Nat.le_of_ble_eq_true rfl | (rw [lg_len]; simp only [List.map_cons, List.map_nil, cat_rf]; exact Nat.le_of_ble_eq_true rfl)) ?_
  unfold F_X12_isLetter
  refine ok_iload_n (dd TX12_isLetter_0 0 rfl) 0 rfl ?_
  refine ok_bipush (v := (97 : Int32)) (dd TX12_isLetter_0 1 rfl) (by decide) ?_
  refine ok_icmp_lt (tgt := 16) (dd TX12_isLetter_0 2 rfl) (by decide) ?_ ?_
  · refine ok_iconst (v := (0 : Int32)) (dd TX12_isLetter_0 8 rfl) (by decide) ?_
    exact ok_zreturn (dd TX12_isLetter_0 9 rfl) rfl
  · refine ok_iload_n (dd TX12_isLetter_0 3 rfl) 0 rfl ?_
    refine ok_bipush (v := (122 : Int32)) (dd TX12_isLetter_0 4 rfl) (by decide) ?_
    refine ok_icmp_gt (tgt := 16) (dd TX12_isLetter_0 5 rfl) (by decide) ?_ ?_
    · refine ok_iconst (v := (0 : Int32)) (dd TX12_isLetter_0 8 rfl) (by decide) ?_
      exact ok_zreturn (dd TX12_isLetter_0 9 rfl) rfl
    · refine ok_iconst (v := (1 : Int32)) (dd TX12_isLetter_0 6 rfl) (by decide) ?_
      refine ok_goto (tgt := 17) (dd TX12_isLetter_0 7 rfl) (by decide) ?_
      exact ok_zreturn (dd TX12_isLetter_0 9 rfl) rfl
def F_X12_isDigit (p0 : Int32) : M Int32 := if p0 < (48 : Int32) then rz (0 : Int32) else if (57 : Int32) < p0 then rz (0 : Int32) else rz (1 : Int32)
set_option maxRecDepth 100000 in
theorem C_X12_isDigit (Γ : Gam) (p0 : Int32) : Ct Γ mX12_isDigit 0 vI [.int p0] (F_X12_isDigit p0) := by
  refine ct_in (lv := [(0, .int p0)]) (by decide) (by first | rfl | (simp only [lv_args, cat_rf]; rfl)) (by first | exact Nat.le_of_ble_eq_true rfl | (rw [lg_len]; simp only [List.map_cons, List.map_nil, cat_rf]; exact Nat.le_of_ble_eq_true rfl)) ?_
  unfold F_X12_isDigit
  refine ok_iload_n (dd TX12_isDigit_0 0 rfl) 0 rfl ?_
  refine ok_bipush (v := (48 : Int32)) (dd TX12_isDigit_0 1 rfl) (by decide) ?_
  refine ok_icmp_lt (tgt := 16) (dd TX12_isDigit_0 2 rfl) (by decide) ?_ ?_
  · refine ok_iconst (v := (0 : Int32)) (dd TX12_isDigit_0 8 rfl) (by decide) ?_
    exact ok_zreturn (dd TX12_isDigit_0 9 rfl) rfl
  · refine ok_iload_n (dd TX12_isDigit_0 3 rfl) 0 rfl ?_
    refine ok_bipush (v := (57 : Int32)) (dd TX12_isDigit_0 4 rfl) (by decide) ?_
    refine ok_icmp_gt (tgt := 16) (dd TX12_isDigit_0 5 rfl) (by decide) ?_ ?_
    · refine ok_iconst (v := (0 : Int32)) (dd TX12_isDigit_0 8 rfl) (by decide) ?_
      exact ok_zreturn (dd TX12_isDigit_0 9 rfl) rfl
    · refine ok_iconst (v := (1 : Int32)) (dd TX12_isDigit_0 6 rfl) (by decide) ?_
      refine ok_goto (tgt := 17) (dd TX12_isDigit_0 7 rfl) (by decide) ?_
      exact ok_zreturn (dd TX12_isDigit_0 9 rfl) rfl
