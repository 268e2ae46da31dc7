def F_X11_keep_L88 (x2 : Option Nat) : M Int32 := bn (wI 3 5 x2 (3 : Int32)) fun _ => rt (0 : Int32)
set_option maxRecDepth 100000 in
theorem O_X11_keep_L88 (Γ : Gam) (x2 : Option Nat) : Ok Γ mX11_keep 8 (qo Γ vI) 88 [(2, va_rf x2)] [] (F_X11_keep_L88 x2) := by
  unfold F_X11_keep_L88
  refine ok_aload_n (dd TX11_keep_1 6 rfl) 0 rfl ?_
  refine ok_iconst (v := (3 : Int32)) (dd TX11_keep_1 7 rfl) (by decide) ?_
  refine ok_wI fl_RX11_305 (Or.inl rfl) (tyX3_ok 5 (by decide)) (by decide) rfl (dd TX11_keep_1 8 rfl) ?_
  refine ok_iconst (v := (0 : Int32)) (dd TX11_keep_1 9 rfl) (by decide) ?_
  exact ok_ireturn (dd TX11_keep_1 10 rfl) rfl
def F_X11_keep (this : Nat) (p0 : Int32) : M Int32 := bn (pRc 11 (some this)) fun b1 => bn (F_X11_heldNotice b1 p0) fun v2 => if ¬ v2 = none then bn (gI 3 3 v2) fun v3 => bn (pRc 11 (some this)) fun b4 => bn (F_X11_memberOf b4 v3) fun v5 => bn (gI 3 0 v2) fun v6 => bn (pRc 11 (some this)) fun b7 => bn (F_X11_memberOf b7 v6) fun v8 => bn (gI 3 2 v2) fun v9 => bn (pRc 11 (some this)) fun b10 => bn (F_X11_receiptOf b10 v9) fun v11 => if v5 = none then rt (-1 : Int32) else if v8 = none then rt (-1 : Int32) else if ¬ v11 = none then bn (wZ 5 3 v11 (1 : Int32)) fun _ => bn (gP 1 0 v5) fun v12 => bn (gI 3 1 v2) fun v13 => bn (lI 104 v12 v13) fun v14 => if v14 ≤ 0 then F_X11_keep_L88 v2 else bn (gP 1 0 v8) fun v15 => bn (gI 3 1 v2) fun v16 => bn (lI 104 v15 v16) fun v17 => if v17 < 0 then bn (wI 3 5 v2 (2 : Int32)) fun _ => bn (gI 3 3 v2) fun v18 => bn (wI 5 2 v11 v18) fun _ => bn (gI 3 1 v2) fun v19 => bn (pRc 11 (some this)) fun b20 => bn (F_X11_latestPrice b20 v19) fun v21 => bn (gI 3 0 v2) fun v22 => bn (gI 3 3 v2) fun v23 => bn (gI 3 1 v2) fun v24 => bn (pRc 11 (some this)) fun b25 => bn (F_X11_exchange b25 v22 v23 v24 (1 : Int32) v21) fun _ => bn (gP 11 1 (some this)) fun v26 => bn (gI 11 8 (some this)) fun v27 => bn (gI 3 1 v2) fun v28 => bn (gI 5 0 v11) fun v29 => bn (gI 5 1 v11) fun v30 => bn (pRc 7 v26) fun b31 => bn (F_X7_valueOf b31 (4 : Int32) v27 v28 v21 (0 : Int32) v29 v30) fun v32 => bn (gLg 1 2 v5) fun v33 => bn (wL 1 2 v5 (v33 - (v21.toInt64 + v32.toInt64))) fun _ => bn (gLg 1 2 v8) fun v34 => bn (wL 1 2 v8 (v34 + (v21.toInt64 + v32.toInt64))) fun _ => rt (1 : Int32) else F_X11_keep_L88 v2 else rt (-1 : Int32) else rt (-1 : Int32)
set_option maxRecDepth 100000 in
theorem C_X11_keep (Γ : Gam) (this : Nat) (p0 : Int32) : Ct Γ mX11_keep 8 vI [va_rf (some this), .int p0] (F_X11_keep this p0) := by
  refine ct_in (lv := [(0, va_rf (some this)), (1, .int p0)]) (by decide) (by first | rfl | (simp only [lv_args, cat_rf]; rfl)) (by first | exact Nat.le_of_ble_eq_true rfl | (rw [lg_len]; simp only [List.map_cons, List.map_nil, cat_rf]; exact Nat.le_of_ble_eq_true rfl)) ?_
  unfold F_X11_keep
  refine ok_aload_n (dd TX11_keep_0 0 rfl) 0 rfl ?_
  refine ok_iload_n (dd TX11_keep_0 1 rfl) 1 rfl ?_
  refine ok_callVR (cn := 11) [.int p0] [] (fun b1 => C_X11_heldNotice Γ b1 p0) rfl cy_X11_heldNotice ml_RX11_281 im_X11_heldNotice se_X11_heldNotice (by decide) (Nat.le_of_ble_eq_true rfl) rfl (dd TX11_keep_0 2 rfl) (fun v2 => ?_)
  refine ok_astore_n (lv' := [(2, va_rf v2), (0, va_rf (some this)), (1, .int p0)]) (dd TX11_keep_0 3 rfl) (by decide) (by first | rfl | (simp only [List.filter, cat_rf]; rfl)) ?_
  refine ok_aload_n (dd TX11_keep_0 4 rfl) 0 rfl ?_
  refine ok_ifnonnull (tgt := 12) (dd TX11_keep_0 5 rfl) (by decide) ?_ ?_
  · refine ok_aload_n (dd TX11_keep_0 8 rfl) 1 rfl ?_
    refine ok_aload_n (dd TX11_keep_0 9 rfl) 0 rfl ?_
    refine ok_gI fl_RX11_289 rfl (dd TX11_keep_0 10 rfl) (fun v3 => ?_)
    refine ok_callVR (cn := 11) [.int v3] [] (fun b4 => C_X11_memberOf Γ b4 v3) rfl cy_X11_memberOf ml_RX11_96 im_X11_memberOf se_X11_memberOf (by decide) (Nat.le_of_ble_eq_true rfl) rfl (dd TX11_keep_0 11 rfl) (fun v5 => ?_)
    refine ok_astore_n (lv' := [(3, va_rf v5), (2, va_rf v2), (0, va_rf (some this)), (1, .int p0)]) (dd TX11_keep_0 12 rfl) (by decide) (by first | rfl | (simp only [List.filter, cat_rf]; rfl)) ?_
    refine ok_aload_n (dd TX11_keep_0 13 rfl) 2 rfl ?_
    refine ok_aload_n (dd TX11_keep_0 14 rfl) 1 rfl ?_
    refine ok_gI fl_RX11_299 rfl (dd TX11_keep_0 15 rfl) (fun v6 => ?_)
    refine ok_callVR (cn := 11) [.int v6] [] (fun b7 => C_X11_memberOf Γ b7 v6) rfl cy_X11_memberOf ml_RX11_96 im_X11_memberOf se_X11_memberOf (by decide) (Nat.le_of_ble_eq_true rfl) rfl (dd TX11_keep_0 16 rfl) (fun v8 => ?_)
    refine ok_astore (lv' := [(4, va_rf v8), (3, va_rf v5), (2, va_rf v2), (0, va_rf (some this)), (1, .int p0)]) (dd TX11_keep_0 17 rfl) (by decide) (by first | rfl | (simp only [List.filter, cat_rf]; rfl)) ?_
    refine ok_aload_n (dd TX11_keep_0 18 rfl) 3 rfl ?_
    refine ok_aload_n (dd TX11_keep_0 19 rfl) 2 rfl ?_
    refine ok_gI fl_RX11_302 rfl (dd TX11_keep_0 20 rfl) (fun v9 => ?_)
    refine ok_callVR (cn := 11) [.int v9] [] (fun b10 => C_X11_receiptOf Γ b10 v9) rfl cy_X11_receiptOf ml_RX11_258 im_X11_receiptOf se_X11_receiptOf (by decide) (Nat.le_of_ble_eq_true rfl) rfl (dd TX11_keep_0 21 rfl) (fun v11 => ?_)
    refine ok_astore (lv' := [(5, va_rf v11), (4, va_rf v8), (3, va_rf v5), (2, va_rf v2), (0, va_rf (some this)), (1, .int p0)]) (dd TX11_keep_0 22 rfl) (by decide) (by first | rfl | (simp only [List.filter, cat_rf]; rfl)) ?_
    refine ok_aload_n (dd TX11_keep_0 23 rfl) 2 rfl ?_
    refine ok_ifnull (tgt := 55) (dd TX11_keep_0 24 rfl) (by decide) ?_ ?_
    · refine ok_iconst (v := (-1 : Int32)) (dd TX11_keep_0 29 rfl) (by decide) ?_
      exact ok_ireturn (dd TX11_keep_0 30 rfl) rfl
    · refine ok_aload (dd TX11_keep_0 25 rfl) 1 rfl ?_
      refine ok_ifnull (tgt := 55) (dd TX11_keep_0 26 rfl) (by decide) ?_ ?_
      · refine ok_iconst (v := (-1 : Int32)) (dd TX11_keep_0 29 rfl) (by decide) ?_
        exact ok_ireturn (dd TX11_keep_0 30 rfl) rfl
      · refine ok_aload (dd TX11_keep_0 27 rfl) 0 rfl ?_
        refine ok_ifnonnull (tgt := 57) (dd TX11_keep_0 28 rfl) (by decide) ?_ ?_
        · refine ok_aload (dd TX11_keep_0 31 rfl) 0 rfl ?_
          refine ok_iconst (v := (1 : Int32)) (dd TX11_keep_0 32 rfl) (by decide) ?_
          refine ok_wZ fl_RX11_262 (Or.inl rfl) (tyX5_ok 3 (by decide)) (by decide) rfl (dd TX11_keep_0 33 rfl) ?_
          refine ok_aload_n (dd TX11_keep_0 34 rfl) 2 rfl ?_
          refine ok_gP fl_RX11_240 rfl (dd TX11_keep_0 35 rfl) (fun v12 => ?_)
          refine ok_aload_n (dd TX11_keep_0 36 rfl) 3 rfl ?_
          refine ok_gI fl_RX11_292 rfl (dd TX11_keep_0 37 rfl) (fun v13 => ?_)
          refine ok_lI (kd := 104) (by decide) rfl (dd TX11_keep_0 38 rfl) (fun v14 => ?_)
          refine ok_if_le (tgt := 88) (dd TX11_keep_0 39 rfl) (by decide) ?_ ?_
          · refine ok_sub [3] rfl ?_
            exact O_X11_keep_L88 Γ v2
          · refine ok_aload (dd TX11_keep_1 0 rfl) 1 rfl ?_
            refine ok_gP fl_RX11_240 rfl (dd TX11_keep_1 1 rfl) (fun v15 => ?_)
            refine ok_aload_n (dd TX11_keep_1 2 rfl) 3 rfl ?_
            refine ok_gI fl_RX11_292 rfl (dd TX11_keep_1 3 rfl) (fun v16 => ?_)
            refine ok_lI (kd := 104) (by decide) rfl (dd TX11_keep_1 4 rfl) (fun v17 => ?_)
            refine ok_if_lt (tgt := 95) (dd TX11_keep_1 5 rfl) (by decide) ?_ ?_
            · refine ok_aload_n (dd TX11_keep_1 11 rfl) 3 rfl ?_
              refine ok_iconst (v := (2 : Int32)) (dd TX11_keep_1 12 rfl) (by decide) ?_
              refine ok_wI fl_RX11_305 (Or.inl rfl) (tyX3_ok 5 (by decide)) (by decide) rfl (dd TX11_keep_1 13 rfl) ?_
              refine ok_aload (dd TX11_keep_1 14 rfl) 0 rfl ?_
              refine ok_aload_n (dd TX11_keep_1 15 rfl) 3 rfl ?_
              refine ok_gI fl_RX11_289 rfl (dd TX11_keep_1 16 rfl) (fun v18 => ?_)
              refine ok_wI fl_RX11_265 (Or.inl rfl) (tyX5_ok 2 (by decide)) (by decide) rfl (dd TX11_keep_1 17 rfl) ?_
              refine ok_aload_n (dd TX11_keep_1 18 rfl) 4 rfl ?_
              refine ok_aload_n (dd TX11_keep_1 19 rfl) 3 rfl ?_
              refine ok_gI fl_RX11_292 rfl (dd TX11_keep_1 20 rfl) (fun v19 => ?_)
              refine ok_callVI (cn := 11) [.int v19] [] (fun b20 => C_X11_latestPrice Γ b20 v19) rfl cy_X11_latestPrice ml_RX11_268 im_X11_latestPrice se_X11_latestPrice (by decide) (Nat.le_of_ble_eq_true rfl) rfl (dd TX11_keep_1 21 rfl) (fun v21 => ?_)
              refine ok_istore (lv' := [(6, .int v21), (5, va_rf v11), (4, va_rf v8), (3, va_rf v5), (2, va_rf v2), (0, va_rf (some this)), (1, .int p0)]) (dd TX11_keep_1 22 rfl) (by decide) (by first | rfl | (simp only [List.filter, cat_rf]; rfl)) ?_
              refine ok_aload_n (dd TX11_keep_1 23 rfl) 5 rfl ?_
              refine ok_aload_n (dd TX11_keep_1 24 rfl) 4 rfl ?_
              refine ok_gI fl_RX11_299 rfl (dd TX11_keep_1 25 rfl) (fun v22 => ?_)
              refine ok_aload_n (dd TX11_keep_1 26 rfl) 4 rfl ?_
              refine ok_gI fl_RX11_289 rfl (dd TX11_keep_1 27 rfl) (fun v23 => ?_)
              refine ok_aload_n (dd TX11_keep_1 28 rfl) 4 rfl ?_
              refine ok_gI fl_RX11_292 rfl (dd TX11_keep_1 29 rfl) (fun v24 => ?_)
              refine ok_iconst (v := (1 : Int32)) (dd TX11_keep_1 30 rfl) (by decide) ?_
              refine ok_iload (dd TX11_keep_1 31 rfl) 0 rfl ?_
              refine ok_callVV (cn := 11) [.int v22, .int v23, .int v24, .int (1 : Int32), .int v21] [] (fun b25 => C_X11_exchange Γ b25 v22 v23 v24 (1 : Int32) v21) rfl cy_X11_exchange ml_RX11_182 im_X11_exchange se_X11_exchange (by decide) (Nat.le_of_ble_eq_true rfl) rfl (dd TX11_keep_1 32 rfl) ?_
              refine ok_iload (dd TX11_keep_1 33 rfl) 0 rfl ?_
              refine ok_i2l (dd TX11_keep_1 34 rfl) ?_
              refine ok_lstore (lv' := [(7, .long v21.toInt64), (6, .int v21), (5, va_rf v11), (4, va_rf v8), (3, va_rf v5), (2, va_rf v2), (0, va_rf (some this)), (1, .int p0)]) (dd TX11_keep_1 35 rfl) (by decide) (by first | rfl | (simp only [List.filter, cat_rf]; rfl)) ?_
              refine ok_lload (dd TX11_keep_1 36 rfl) 0 rfl ?_
              refine ok_aload_n (dd TX11_keep_1 37 rfl) 6 rfl ?_
              refine ok_gP fl_RX11_19 rfl (dd TX11_keep_1 38 rfl) (fun v26 => ?_)
              refine ok_iconst (v := (4 : Int32)) (dd TX11_keep_1 39 rfl) (by decide) ?_
              refine ok_aload_n (dd TX11_keep_2 0 rfl) 6 rfl ?_
              refine ok_gI fl_RX11_186 rfl (dd TX11_keep_2 1 rfl) (fun v27 => ?_)
              refine ok_aload_n (dd TX11_keep_2 2 rfl) 5 rfl ?_
              refine ok_gI fl_RX11_292 rfl (dd TX11_keep_2 3 rfl) (fun v28 => ?_)
              refine ok_iload (dd TX11_keep_2 4 rfl) 1 rfl ?_
              refine ok_iconst (v := (0 : Int32)) (dd TX11_keep_2 5 rfl) (by decide) ?_
              refine ok_aload (dd TX11_keep_2 6 rfl) 2 rfl ?_
              refine ok_gI fl_RX11_308 rfl (dd TX11_keep_2 7 rfl) (fun v29 => ?_)
              refine ok_aload (dd TX11_keep_2 8 rfl) 2 rfl ?_
              refine ok_gI fl_RX11_311 rfl (dd TX11_keep_2 9 rfl) (fun v30 => ?_)
              refine ok_callVI (cn := 7) [.int (4 : Int32), .int v27, .int v28, .int v21, .int (0 : Int32), .int v29, .int v30] [.long v21.toInt64] (fun b31 => C_X7_valueOf Γ b31 (4 : Int32) v27 v28 v21 (0 : Int32) v29 v30) rfl cy_X7_valueOf ml_RX11_81 im_X7_valueOf se_X7_valueOf (by decide) (Nat.le_of_ble_eq_true rfl) rfl (dd TX11_keep_2 10 rfl) (fun v32 => ?_)
              refine ok_i2l (dd TX11_keep_2 11 rfl) ?_
              refine ok_ladd (dd TX11_keep_2 12 rfl) ?_
              refine ok_lstore (lv' := [(7, .long (v21.toInt64 + v32.toInt64)), (6, .int v21), (5, va_rf v11), (4, va_rf v8), (3, va_rf v5), (2, va_rf v2), (0, va_rf (some this)), (1, .int p0)]) (dd TX11_keep_2 13 rfl) (by decide) (by first | rfl | (simp only [List.filter, cat_rf]; rfl)) ?_
              refine ok_aload_n (dd TX11_keep_2 14 rfl) 4 rfl ?_
              refine ok_dup (dd TX11_keep_2 15 rfl) (by first | rfl | exact cat_rf _) ?_
              refine ok_gL fl_RX11_104 rfl (dd TX11_keep_2 16 rfl) (fun v33 => ?_)
              refine ok_lload (dd TX11_keep_2 17 rfl) 0 rfl ?_
              refine ok_lsub (dd TX11_keep_2 18 rfl) ?_
              refine ok_wL fl_RX11_104 (Or.inl rfl) (tyX1_ok 2 (by decide)) (by decide) rfl (dd TX11_keep_2 19 rfl) ?_
              refine ok_aload (dd TX11_keep_2 20 rfl) 3 rfl ?_
              refine ok_dup (dd TX11_keep_2 21 rfl) (by first | rfl | exact cat_rf _) ?_
              refine ok_gL fl_RX11_104 rfl (dd TX11_keep_2 22 rfl) (fun v34 => ?_)
              refine ok_lload (dd TX11_keep_2 23 rfl) 0 rfl ?_
              refine ok_ladd (dd TX11_keep_2 24 rfl) ?_
              refine ok_wL fl_RX11_104 (Or.inl rfl) (tyX1_ok 2 (by decide)) (by decide) rfl (dd TX11_keep_2 25 rfl) ?_
              refine ok_iconst (v := (1 : Int32)) (dd TX11_keep_2 26 rfl) (by decide) ?_
              exact ok_ireturn (dd TX11_keep_2 27 rfl) rfl
            · refine ok_sub [3] rfl ?_
              exact O_X11_keep_L88 Γ v2
        · refine ok_iconst (v := (-1 : Int32)) (dd TX11_keep_0 29 rfl) (by decide) ?_
          exact ok_ireturn (dd TX11_keep_0 30 rfl) rfl
  · refine ok_iconst (v := (-1 : Int32)) (dd TX11_keep_0 6 rfl) (by decide) ?_
    exact ok_ireturn (dd TX11_keep_0 7 rfl) rfl
def F_X11_needOf_L69 (k5 : Nat → Option Nat → Int32 → Int64 → Int32 → M Int64) (this : Nat) (x1 : Option Nat) (x2 : Int32) (x3 : Int64) (x5 : Int32) : M Int64 := k5 this x1 x2 x3 (x5 + (1 : Int32))
set_option maxRecDepth 100000 in
theorem O_X11_needOf_L69 (Γ : Gam) (k5 : Nat → Option Nat → Int32 → Int64 → Int32 → M Int64) (hk5 : ∀ (z0 : Nat) (z1 : Option Nat) (z2 : Int32) (z3 : Int64) (z5 : Int32), Ok Γ mX11_needOf 5 (qo Γ vL) 5 [(0, va_rf (some z0)), (1, va_rf z1), (2, .int z2), (3, .long z3), (5, .int z5)] [] (k5 z0 z1 z2 z3 z5)) (this : Nat) (x1 : Option Nat) (x2 : Int32) (x3 : Int64) (x5 : Int32) : Ok Γ mX11_needOf 5 (qo Γ vL) 69 [(0, va_rf (some this)), (1, va_rf x1), (2, .int x2), (3, .long x3), (5, .int x5)] [] (F_X11_needOf_L69 k5 this x1 x2 x3 x5) := by
  unfold F_X11_needOf_L69
  refine ok_iinc (lv' := [(5, .int (x5 + (1 : Int32))), (0, va_rf (some this)), (1, va_rf x1), (2, .int x2), (3, .long x3)]) (dd TX11_needOf_0 39 rfl) 4 rfl (congrArg (fun q : Int32 => x5 + q) (show Int32.ofInt (1) = (1 : Int32) from by decide)) (by decide) (by first | rfl | (simp only [List.filter, cat_rf]; rfl)) ?_
  refine ok_goto (tgt := 5) (dd TX11_needOf_1 0 rfl) (by decide) ?_
  refine ok_sub [1, 2, 3, 4, 0] rfl ?_
  exact hk5 this x1 x2 x3 (x5 + (1 : Int32))
def F_X11_needOf_L5 : Nat → Nat → Option Nat → Int32 → Int64 → Int32 → M Int64
  | 0 => fun _ _ _ _ _ => fl
  | n + 1 => fun this x1 x2 x3 x5 => if (6 : Int32) ≤ x5 then rt x3 else bn (gP 1 0 x1) fun v1 => bn (lI 104 v1 x5) fun v2 => if (if 0 ≤ v2 then v2 else 0 - v2) ≤ 0 then F_X11_needOf_L69 (F_X11_needOf_L5 n) this x1 x2 x3 x5 else bn (gP 11 1 (some this)) fun v3 => bn (gI 11 8 (some this)) fun v4 => bn (pRc 11 (some this)) fun b5 => bn (F_X11_latestPrice b5 x5) fun v6 => bn (pRc 7 v3) fun b7 => bn (F_X7_valueOf b7 x2 v4 x5 v6 (if 0 ≤ v2 then v2 else 0 - v2) (0 : Int32) (0 : Int32)) fun v8 => F_X11_needOf_L69 (F_X11_needOf_L5 n) this x1 x2 (x3 + (((if 0 ≤ v2 then v2 else 0 - v2).toInt64) * ((if v8 < (0 : Int32) then (0 : Int32) else v8).toInt64))) x5
set_option maxRecDepth 100000 in
theorem O_X11_needOf_L5 (Γ : Gam) (n : Nat) : ∀ (this : Nat) (x1 : Option Nat) (x2 : Int32) (x3 : Int64) (x5 : Int32), Ok Γ mX11_needOf 5 (qo Γ vL) 5 [(0, va_rf (some this)), (1, va_rf x1), (2, .int x2), (3, .long x3), (5, .int x5)] [] (F_X11_needOf_L5 n this x1 x2 x3 x5) := by
  induction n with
  | zero => intro this x1 x2 x3 x5; exact ok_fl
  | succ n ih =>
    intro this x1 x2 x3 x5
    rw [F_X11_needOf_L5]
    refine ok_iload (dd TX11_needOf_0 4 rfl) 4 rfl ?_
    refine ok_bipush (v := (6 : Int32)) (dd TX11_needOf_0 5 rfl) (by decide) ?_
    refine ok_icmp_ge (tgt := 75) (dd TX11_needOf_0 6 rfl) (by decide) ?_ ?_
    · refine ok_lload_n (dd TX11_needOf_1 1 rfl) 3 rfl ?_
      exact ok_lreturn (dd TX11_needOf_1 2 rfl) rfl
    · refine ok_aload_n (dd TX11_needOf_0 7 rfl) 1 rfl ?_
      refine ok_gP fl_RX11_240 rfl (dd TX11_needOf_0 8 rfl) (fun v1 => ?_)
      refine ok_iload (dd TX11_needOf_0 9 rfl) 4 rfl ?_
      refine ok_lI (kd := 104) (by decide) rfl (dd TX11_needOf_0 10 rfl) (fun v2 => ?_)
      refine ok_mabs ml_RX11_370 ms_abs w_mi mc_abs (by decide) (Nat.le_of_ble_eq_true rfl) (dd TX11_needOf_0 11 rfl) ?_
      refine ok_istore (lv' := [(6, .int (if 0 ≤ v2 then v2 else 0 - v2)), (0, va_rf (some this)), (1, va_rf x1), (2, .int x2), (3, .long x3), (5, .int x5)]) (dd TX11_needOf_0 12 rfl) (by decide) (by first | rfl | (simp only [List.filter, cat_rf]; rfl)) ?_
      refine ok_iload (dd TX11_needOf_0 13 rfl) 0 rfl ?_
      refine ok_if_le (tgt := 69) (dd TX11_needOf_0 14 rfl) (by decide) ?_ ?_
      · refine ok_sub [1, 2, 3, 4, 5] rfl ?_
        exact O_X11_needOf_L69 Γ (F_X11_needOf_L5 n) ih this x1 x2 x3 x5
      · refine ok_aload_n (dd TX11_needOf_0 15 rfl) 1 rfl ?_
        refine ok_gP fl_RX11_19 rfl (dd TX11_needOf_0 16 rfl) (fun v3 => ?_)
        refine ok_iload_n (dd TX11_needOf_0 17 rfl) 3 rfl ?_
        refine ok_aload_n (dd TX11_needOf_0 18 rfl) 1 rfl ?_
        refine ok_gI fl_RX11_186 rfl (dd TX11_needOf_0 19 rfl) (fun v4 => ?_)
        refine ok_iload (dd TX11_needOf_0 20 rfl) 5 rfl ?_
        refine ok_aload_n (dd TX11_needOf_0 21 rfl) 1 rfl ?_
        refine ok_iload (dd TX11_needOf_0 22 rfl) 5 rfl ?_
        refine ok_callVI (cn := 11) [.int x5] [.int x5, .int v4, .int x2, va_rf v3] (fun b5 => C_X11_latestPrice Γ b5 x5) rfl cy_X11_latestPrice ml_RX11_268 im_X11_latestPrice se_X11_latestPrice (by decide) (Nat.le_of_ble_eq_true rfl) rfl (dd TX11_needOf_0 23 rfl) (fun v6 => ?_)
        refine ok_iload (dd TX11_needOf_0 24 rfl) 0 rfl ?_
        refine ok_iconst (v := (0 : Int32)) (dd TX11_needOf_0 25 rfl) (by decide) ?_
        refine ok_iconst (v := (0 : Int32)) (dd TX11_needOf_0 26 rfl) (by decide) ?_
        refine ok_callVI (cn := 7) [.int x2, .int v4, .int x5, .int v6, .int (if 0 ≤ v2 then v2 else 0 - v2), .int (0 : Int32), .int (0 : Int32)] [] (fun b7 => C_X7_valueOf Γ b7 x2 v4 x5 v6 (if 0 ≤ v2 then v2 else 0 - v2) (0 : Int32) (0 : Int32)) rfl cy_X7_valueOf ml_RX11_81 im_X7_valueOf se_X7_valueOf (by decide) (Nat.le_of_ble_eq_true rfl) rfl (dd TX11_needOf_0 27 rfl) (fun v8 => ?_)
        refine ok_istore (lv' := [(7, .int v8), (6, .int (if 0 ≤ v2 then v2 else 0 - v2)), (0, va_rf (some this)), (1, va_rf x1), (2, .int x2), (3, .long x3), (5, .int x5)]) (dd TX11_needOf_0 28 rfl) (by decide) (by first | rfl | (simp only [List.filter, cat_rf]; rfl)) ?_
        refine ok_lload_n (dd TX11_needOf_0 29 rfl) 5 rfl ?_
        refine ok_iload (dd TX11_needOf_0 30 rfl) 1 rfl ?_
        refine ok_i2l (dd TX11_needOf_0 31 rfl) ?_
        refine ok_iload (dd TX11_needOf_0 32 rfl) 0 rfl ?_
        refine ok_iconst (v := (0 : Int32)) (dd TX11_needOf_0 33 rfl) (by decide) ?_
        refine ok_mmax ml_RX11_375 ms_max w_mi mc_max (by decide) (Nat.le_of_ble_eq_true rfl) (dd TX11_needOf_0 34 rfl) ?_
        refine ok_i2l (dd TX11_needOf_0 35 rfl) ?_
        refine ok_lmul (dd TX11_needOf_0 36 rfl) ?_
        refine ok_ladd (dd TX11_needOf_0 37 rfl) ?_
        refine ok_lstore_n (lv' := [(3, .long (x3 + (((if 0 ≤ v2 then v2 else 0 - v2).toInt64) * ((if v8 < (0 : Int32) then (0 : Int32) else v8).toInt64)))), (7, .int v8), (6, .int (if 0 ≤ v2 then v2 else 0 - v2)), (0, va_rf (some this)), (1, va_rf x1), (2, .int x2), (5, .int x5)]) (dd TX11_needOf_0 38 rfl) (by decide) (by first | rfl | (simp only [List.filter, cat_rf]; rfl)) ?_
        refine ok_sub [3, 4, 5, 0, 6] rfl ?_
        exact O_X11_needOf_L69 Γ (F_X11_needOf_L5 n) ih this x1 x2 (x3 + (((if 0 ≤ v2 then v2 else 0 - v2).toInt64) * ((if v8 < (0 : Int32) then (0 : Int32) else v8).toInt64))) x5
def F_X11_needOf (this : Nat) (p0 : Option Nat) (p1 : Int32) : M Int64 := F_X11_needOf_L5 FU this p0 p1 (0 : Int64) (0 : Int32)
set_option maxRecDepth 100000 in
theorem C_X11_needOf (Γ : Gam) (this : Nat) (p0 : Option Nat) (p1 : Int32) : Ct Γ mX11_needOf 5 vL [va_rf (some this), va_rf p0, .int p1] (F_X11_needOf this p0 p1) := by
  refine ct_in (lv := [(0, va_rf (some this)), (1, va_rf p0), (2, .int p1)]) (by decide) (by first | rfl | (simp only [lv_args, cat_rf]; rfl)) (by first | exact Nat.le_of_ble_eq_true rfl | (rw [lg_len]; simp only [List.map_cons, List.map_nil, cat_rf]; exact Nat.le_of_ble_eq_true rfl)) ?_
  unfold F_X11_needOf
  refine ok_lconst (v := (0 : Int64)) (dd TX11_needOf_0 0 rfl) (by decide) ?_
  refine ok_lstore_n (lv' := [(3, .long (0 : Int64)), (0, va_rf (some this)), (1, va_rf p0), (2, .int p1)]) (dd TX11_needOf_0 1 rfl) (by decide) (by first | rfl | (simp only [List.filter, cat_rf]; rfl)) ?_
  refine ok_iconst (v := (0 : Int32)) (dd TX11_needOf_0 2 rfl) (by decide) ?_
  refine ok_istore (lv' := [(5, .int (0 : Int32)), (3, .long (0 : Int64)), (0, va_rf (some this)), (1, va_rf p0), (2, .int p1)]) (dd TX11_needOf_0 3 rfl) (by decide) (by first | rfl | (simp only [List.filter, cat_rf]; rfl)) ?_
  refine ok_sub [2, 3, 4, 1, 0] rfl ?_
  exact O_X11_needOf_L5 Γ FU this p0 p1 (0 : Int64) (0 : Int32)
def F_X11_isTooFar (this : Nat) (p0 : Int32) (p1 : Int32) : M Int32 := bn (pRc 11 (some this)) fun b1 => bn (F_X11_latestPrice b1 p0) fun v2 => if v2 = 0 then rz (0 : Int32) else bn (gP 11 1 (some this)) fun v3 => bn (gI 11 8 (some this)) fun v4 => bn (pRc 7 v3) fun b5 => bn (F_X7_valueOf b5 (0 : Int32) v4 p0 v2 (0 : Int32) (0 : Int32) (0 : Int32)) fun v6 => if (if 0 ≤ (p1 - v2) then (p1 - v2) else 0 - (p1 - v2)) ≤ v6 then rz (0 : Int32) else rz (1 : Int32)
set_option maxRecDepth 100000 in
theorem C_X11_isTooFar (Γ : Gam) (this : Nat) (p0 : Int32) (p1 : Int32) : Ct Γ mX11_isTooFar 5 vI [va_rf (some this), .int p0, .int p1] (F_X11_isTooFar this p0 p1) := by
  refine ct_in (lv := [(0, va_rf (some this)), (1, .int p0), (2, .int p1)]) (by decide) (by first | rfl | (simp only [lv_args, cat_rf]; rfl)) (by first | exact Nat.le_of_ble_eq_true rfl | (rw [lg_len]; simp only [List.map_cons, List.map_nil, cat_rf]; exact Nat.le_of_ble_eq_true rfl)) ?_
  unfold F_X11_isTooFar
  refine ok_aload_n (dd TX11_isTooFar_0 0 rfl) 0 rfl ?_
  refine ok_iload_n (dd TX11_isTooFar_0 1 rfl) 1 rfl ?_
  refine ok_callVI (cn := 11) [.int p0] [] (fun b1 => C_X11_latestPrice Γ b1 p0) rfl cy_X11_latestPrice ml_RX11_268 im_X11_latestPrice se_X11_latestPrice (by decide) (Nat.le_of_ble_eq_true rfl) rfl (dd TX11_isTooFar_0 2 rfl) (fun v2 => ?_)
  refine ok_istore_n (lv' := [(3, .int v2), (0, va_rf (some this)), (1, .int p0), (2, .int p1)]) (dd TX11_isTooFar_0 3 rfl) (by decide) (by first | rfl | (simp only [List.filter, cat_rf]; rfl)) ?_
  refine ok_iload_n (dd TX11_isTooFar_0 4 rfl) 0 rfl ?_
  refine ok_if_eq (tgt := 40) (dd TX11_isTooFar_0 5 rfl) (by decide) ?_ ?_
  · refine ok_iconst (v := (0 : Int32)) (dd TX11_isTooFar_0 24 rfl) (by decide) ?_
    exact ok_zreturn (dd TX11_isTooFar_0 25 rfl) rfl
  · refine ok_iload_n (dd TX11_isTooFar_0 6 rfl) 3 rfl ?_
    refine ok_iload_n (dd TX11_isTooFar_0 7 rfl) 0 rfl ?_
    refine ok_isub (dd TX11_isTooFar_0 8 rfl) ?_
    refine ok_mabs ml_RX11_370 ms_abs w_mi mc_abs (by decide) (Nat.le_of_ble_eq_true rfl) (dd TX11_isTooFar_0 9 rfl) ?_
    refine ok_aload_n (dd TX11_isTooFar_0 10 rfl) 1 rfl ?_
    refine ok_gP fl_RX11_19 rfl (dd TX11_isTooFar_0 11 rfl) (fun v3 => ?_)
    refine ok_iconst (v := (0 : Int32)) (dd TX11_isTooFar_0 12 rfl) (by decide) ?_
    refine ok_aload_n (dd TX11_isTooFar_0 13 rfl) 1 rfl ?_
    refine ok_gI fl_RX11_186 rfl (dd TX11_isTooFar_0 14 rfl) (fun v4 => ?_)
    refine ok_iload_n (dd TX11_isTooFar_0 15 rfl) 2 rfl ?_
    refine ok_iload_n (dd TX11_isTooFar_0 16 rfl) 0 rfl ?_
    refine ok_iconst (v := (0 : Int32)) (dd TX11_isTooFar_0 17 rfl) (by decide) ?_
    refine ok_iconst (v := (0 : Int32)) (dd TX11_isTooFar_0 18 rfl) (by decide) ?_
    refine ok_iconst (v := (0 : Int32)) (dd TX11_isTooFar_0 19 rfl) (by decide) ?_
    refine ok_callVI (cn := 7) [.int (0 : Int32), .int v4, .int p0, .int v2, .int (0 : Int32), .int (0 : Int32), .int (0 : Int32)] [.int (if 0 ≤ (p1 - v2) then (p1 - v2) else 0 - (p1 - v2))] (fun b5 => C_X7_valueOf Γ b5 (0 : Int32) v4 p0 v2 (0 : Int32) (0 : Int32) (0 : Int32)) rfl cy_X7_valueOf ml_RX11_81 im_X7_valueOf se_X7_valueOf (by decide) (Nat.le_of_ble_eq_true rfl) rfl (dd TX11_isTooFar_0 20 rfl) (fun v6 => ?_)
    refine ok_icmp_le (tgt := 40) (dd TX11_isTooFar_0 21 rfl) (by decide) ?_ ?_
    · refine ok_iconst (v := (0 : Int32)) (dd TX11_isTooFar_0 24 rfl) (by decide) ?_
      exact ok_zreturn (dd TX11_isTooFar_0 25 rfl) rfl
    · refine ok_iconst (v := (1 : Int32)) (dd TX11_isTooFar_0 22 rfl) (by decide) ?_
      refine ok_goto (tgt := 41) (dd TX11_isTooFar_0 23 rfl) (by decide) ?_
      exact ok_zreturn (dd TX11_isTooFar_0 25 rfl) rfl
def F_X11_fallsTonight (this : Nat) (p0 : Option Nat) : M Int32 := bn (gI 1 4 p0) fun v1 => if v1 = 0 then bn (pRc 11 (some this)) fun b2 => bn (F_X11_worthOf b2 p0) fun v3 => bn (gI 1 3 p0) fun v4 => if v4 = 0 then bn (pRc 11 (some this)) fun b5 => bn (F_X11_needOf b5 p0 (2 : Int32)) fun v6 => if 0 ≤ (lg_cmp v3 v6) then bn (wZ 1 3 p0 (0 : Int32)) fun _ => rz (0 : Int32) else bn (wZ 1 3 p0 (1 : Int32)) fun _ => rz (0 : Int32) else bn (wZ 1 3 p0 (0 : Int32)) fun _ => bn (pRc 11 (some this)) fun b7 => bn (F_X11_needOf b7 p0 (1 : Int32)) fun v8 => if 0 ≤ (lg_cmp v3 v8) then rz (0 : Int32) else rz (1 : Int32) else rz (0 : Int32)
set_option maxRecDepth 100000 in
theorem C_X11_fallsTonight (Γ : Gam) (this : Nat) (p0 : Option Nat) : Ct Γ mX11_fallsTonight 6 vI [va_rf (some this), va_rf p0] (F_X11_fallsTonight this p0) := by
  refine ct_in (lv := [(0, va_rf (some this)), (1, va_rf p0)]) (by decide) (by first | rfl | (simp only [lv_args, cat_rf]; rfl)) (by first | exact Nat.le_of_ble_eq_true rfl | (rw [lg_len]; simp only [List.map_cons, List.map_nil, cat_rf]; exact Nat.le_of_ble_eq_true rfl)) ?_
  unfold F_X11_fallsTonight
  refine ok_aload_n (dd TX11_fallsTonight_0 0 rfl) 1 rfl ?_
  refine ok_gZ fl_RX11_228 rfl (dd TX11_fallsTonight_0 1 rfl) (fun v1 => ?_)
  refine ok_if_eq (tgt := 9) (dd TX11_fallsTonight_0 2 rfl) (by decide) ?_ ?_
  · refine ok_aload_n (dd TX11_fallsTonight_0 5 rfl) 0 rfl ?_
    refine ok_aload_n (dd TX11_fallsTonight_0 6 rfl) 1 rfl ?_
    refine ok_callVL (cn := 11) [va_rf p0] [] (fun b2 => C_X11_worthOf Γ b2 p0) rfl cy_X11_worthOf ml_RX11_221 im_X11_worthOf se_X11_worthOf (by decide) (Nat.le_of_ble_eq_true rfl) rfl (dd TX11_fallsTonight_0 7 rfl) (fun v3 => ?_)
    refine ok_lstore_n (lv' := [(2, .long v3), (0, va_rf (some this)), (1, va_rf p0)]) (dd TX11_fallsTonight_0 8 rfl) (by decide) (by first | rfl | (simp only [List.filter, cat_rf]; rfl)) ?_
    refine ok_aload_n (dd TX11_fallsTonight_0 9 rfl) 2 rfl ?_
    refine ok_gZ fl_RX11_225 rfl (dd TX11_fallsTonight_0 10 rfl) (fun v4 => ?_)
    refine ok_if_eq (tgt := 44) (dd TX11_fallsTonight_0 11 rfl) (by decide) ?_ ?_
    · refine ok_aload_n (dd TX11_fallsTonight_0 26 rfl) 2 rfl ?_
      refine ok_lload_n (dd TX11_fallsTonight_0 27 rfl) 0 rfl ?_
      refine ok_aload_n (dd TX11_fallsTonight_0 28 rfl) 1 rfl ?_
      refine ok_aload_n (dd TX11_fallsTonight_0 29 rfl) 2 rfl ?_
      refine ok_iconst (v := (2 : Int32)) (dd TX11_fallsTonight_0 30 rfl) (by decide) ?_
      refine ok_callVL (cn := 11) [va_rf p0, .int (2 : Int32)] [.long v3, va_rf p0] (fun b5 => C_X11_needOf Γ b5 p0 (2 : Int32)) rfl cy_X11_needOf ml_RX11_231 im_X11_needOf se_X11_needOf (by decide) (Nat.le_of_ble_eq_true rfl) rfl (dd TX11_fallsTonight_0 31 rfl) (fun v6 => ?_)
      refine ok_lcmp (dd TX11_fallsTonight_0 32 rfl) ?_
      refine ok_if_ge (tgt := 60) (dd TX11_fallsTonight_0 33 rfl) (by decide) ?_ ?_
      · refine ok_iconst (v := (0 : Int32)) (dd TX11_fallsTonight_0 36 rfl) (by decide) ?_
        refine ok_wZ fl_RX11_225 (Or.inl rfl) (tyX1_ok 3 (by decide)) (by decide) rfl (dd TX11_fallsTonight_0 37 rfl) ?_
        refine ok_iconst (v := (0 : Int32)) (dd TX11_fallsTonight_0 38 rfl) (by decide) ?_
        exact ok_zreturn (dd TX11_fallsTonight_0 39 rfl) rfl
      · refine ok_iconst (v := (1 : Int32)) (dd TX11_fallsTonight_0 34 rfl) (by decide) ?_
        refine ok_goto (tgt := 61) (dd TX11_fallsTonight_0 35 rfl) (by decide) ?_
        refine ok_wZ fl_RX11_225 (Or.inl rfl) (tyX1_ok 3 (by decide)) (by decide) rfl (dd TX11_fallsTonight_0 37 rfl) ?_
        refine ok_iconst (v := (0 : Int32)) (dd TX11_fallsTonight_0 38 rfl) (by decide) ?_
        exact ok_zreturn (dd TX11_fallsTonight_0 39 rfl) rfl
    · refine ok_aload_n (dd TX11_fallsTonight_0 12 rfl) 2 rfl ?_
      refine ok_iconst (v := (0 : Int32)) (dd TX11_fallsTonight_0 13 rfl) (by decide) ?_
      refine ok_wZ fl_RX11_225 (Or.inl rfl) (tyX1_ok 3 (by decide)) (by decide) rfl (dd TX11_fallsTonight_0 14 rfl) ?_
      refine ok_lload_n (dd TX11_fallsTonight_0 15 rfl) 0 rfl ?_
      refine ok_aload_n (dd TX11_fallsTonight_0 16 rfl) 1 rfl ?_
      refine ok_aload_n (dd TX11_fallsTonight_0 17 rfl) 2 rfl ?_
      refine ok_iconst (v := (1 : Int32)) (dd TX11_fallsTonight_0 18 rfl) (by decide) ?_
      refine ok_callVL (cn := 11) [va_rf p0, .int (1 : Int32)] [.long v3] (fun b7 => C_X11_needOf Γ b7 p0 (1 : Int32)) rfl cy_X11_needOf ml_RX11_231 im_X11_needOf se_X11_needOf (by decide) (Nat.le_of_ble_eq_true rfl) rfl (dd TX11_fallsTonight_0 19 rfl) (fun v8 => ?_)
      refine ok_lcmp (dd TX11_fallsTonight_0 20 rfl) ?_
      refine ok_if_ge (tgt := 42) (dd TX11_fallsTonight_0 21 rfl) (by decide) ?_ ?_
      · refine ok_iconst (v := (0 : Int32)) (dd TX11_fallsTonight_0 24 rfl) (by decide) ?_
        exact ok_zreturn (dd TX11_fallsTonight_0 25 rfl) rfl
      · refine ok_iconst (v := (1 : Int32)) (dd TX11_fallsTonight_0 22 rfl) (by decide) ?_
        refine ok_goto (tgt := 43) (dd TX11_fallsTonight_0 23 rfl) (by decide) ?_
        exact ok_zreturn (dd TX11_fallsTonight_0 25 rfl) rfl
  · refine ok_iconst (v := (0 : Int32)) (dd TX11_fallsTonight_0 3 rfl) (by decide) ?_
    exact ok_zreturn (dd TX11_fallsTonight_0 4 rfl) rfl
def F_X4_readExpr_L56 (r_X4_readExpr : Nat → Int32 → M Unit) (r_X4_readCond : Nat → Int32 → M Unit) (r_X4_readSum : Nat → Int32 → M Unit) (r_X4_readPart : Nat → Int32 → M Unit) (r_X4_readFactor : Nat → Int32 → M Unit) (r_X4_readBracket : Nat → Int32 → Int32 → M Unit) (this : Nat) (x1 : Int32) (y0 : Int32) (y1 : Option Nat) : M Unit := bn (pRc 4 y1) fun b7 => bn (F_X4_refuseIf b7 y0 (2 : Int32)) fun _ => bn (pRc 4 (some this)) fun b8 => bn (F_X4_take b8) fun _ => bn (pRc 4 (some this)) fun b9 => bn (r_X4_readExpr b9 (x1 + (1 : Int32))) fun _ => bn (pRc 4 (some this)) fun b10 => bn (F_X4_emit b10 (-8 : Int32)) fun _ => rt ()
set_option maxRecDepth 100000 in
theorem O_X4_readExpr_L56 (Γ : Gam) (D : Nat) (hB : 6 ≤ D) (r_X4_readExpr : Nat → Int32 → M Unit) (hr_X4_readExpr : ∀ (b : Nat) (q0 : Int32), Ct Γ mX4_readExpr D vV [va_rf (some b), .int q0] (r_X4_readExpr b q0)) (r_X4_readCond : Nat → Int32 → M Unit) (hr_X4_readCond : ∀ (b : Nat) (q0 : Int32), Ct Γ mX4_readCond D vV [va_rf (some b), .int q0] (r_X4_readCond b q0)) (r_X4_readSum : Nat → Int32 → M Unit) (hr_X4_readSum : ∀ (b : Nat) (q0 : Int32), Ct Γ mX4_readSum D vV [va_rf (some b), .int q0] (r_X4_readSum b q0)) (r_X4_readPart : Nat → Int32 → M Unit) (hr_X4_readPart : ∀ (b : Nat) (q0 : Int32), Ct Γ mX4_readPart D vV [va_rf (some b), .int q0] (r_X4_readPart b q0)) (r_X4_readFactor : Nat → Int32 → M Unit) (hr_X4_readFactor : ∀ (b : Nat) (q0 : Int32), Ct Γ mX4_readFactor D vV [va_rf (some b), .int q0] (r_X4_readFactor b q0)) (r_X4_readBracket : Nat → Int32 → Int32 → M Unit) (hr_X4_readBracket : ∀ (b : Nat) (q0 : Int32) (q1 : Int32), Ct Γ mX4_readBracket D vV [va_rf (some b), .int q0, .int q1] (r_X4_readBracket b q0 q1)) (this : Nat) (x1 : Int32) (y0 : Int32) (y1 : Option Nat) : Ok Γ mX4_readExpr (D + 1) (qo Γ vV) 56 [(0, va_rf (some this)), (1, .int x1)] [.int y0, va_rf y1] (F_X4_readExpr_L56 r_X4_readExpr r_X4_readCond r_X4_readSum r_X4_readPart r_X4_readFactor r_X4_readBracket this x1 y0 y1) := by
  unfold F_X4_readExpr_L56
  refine ok_iconst (v := (2 : Int32)) (dd TX4_readExpr_0 31 rfl) (by decide) ?_
  refine ok_callVV (cn := 4) [.int y0, .int (2 : Int32)] [] (fun b7 => C_X4_refuseIf Γ b7 y0 (2 : Int32)) rfl cy_X4_refuseIf ml_RX4_52 im_X4_refuseIf se_X4_refuseIf (by omega) (Nat.le_of_ble_eq_true rfl) rfl (dd TX4_readExpr_0 32 rfl) ?_
  refine ok_aload_n (dd TX4_readExpr_0 33 rfl) 0 rfl ?_
  refine ok_callVV (cn := 4) [] [] (fun b8 => C_X4_take Γ b8) rfl cy_X4_take ml_RX4_90 im_X4_take se_X4_take (by omega) (Nat.le_of_ble_eq_true rfl) rfl (dd TX4_readExpr_0 34 rfl) ?_
  refine ok_aload_n (dd TX4_readExpr_0 35 rfl) 0 rfl ?_
  refine ok_iload_n (dd TX4_readExpr_0 36 rfl) 1 rfl ?_
  refine ok_iconst (v := (1 : Int32)) (dd TX4_readExpr_0 37 rfl) (by decide) ?_
  refine ok_iadd (dd TX4_readExpr_0 38 rfl) ?_
  refine ok_callVV (cn := 4) [.int (x1 + (1 : Int32))] [] (fun b9 => hr_X4_readExpr b9 (x1 + (1 : Int32))) rfl cy_X4_readExpr ml_RX4_69 im_X4_readExpr se_X4_readExpr (Nat.le_refl _) (Nat.le_of_ble_eq_true rfl) rfl (dd TX4_readExpr_0 39 rfl) ?_
  refine ok_aload_n (dd TX4_readExpr_1 0 rfl) 0 rfl ?_
  refine ok_bipush (v := (-8 : Int32)) (dd TX4_readExpr_1 1 rfl) (by decide) ?_
  refine ok_callVV (cn := 4) [.int (-8 : Int32)] [] (fun b10 => C_X4_emit Γ b10 (-8 : Int32)) rfl cy_X4_emit ml_RX4_95 im_X4_emit se_X4_emit (by omega) (Nat.le_of_ble_eq_true rfl) rfl (dd TX4_readExpr_1 2 rfl) ?_
  exact ok_return (dd TX4_readExpr_1 3 rfl) rfl
def F_X4_readExpr_L26 (r_X4_readExpr : Nat → Int32 → M Unit) (r_X4_readCond : Nat → Int32 → M Unit) (r_X4_readSum : Nat → Int32 → M Unit) (r_X4_readPart : Nat → Int32 → M Unit) (r_X4_readFactor : Nat → Int32 → M Unit) (r_X4_readBracket : Nat → Int32 → Int32 → M Unit) (this : Nat) (x1 : Int32) (y0 : Int32) (y1 : Option Nat) : M Unit := bn (pRc 4 y1) fun b3 => bn (F_X4_refuseIf b3 y0 (3 : Int32)) fun _ => bn (pRc 4 (some this)) fun b4 => bn (F_X4_take b4) fun _ => bn (pRc 4 (some this)) fun b5 => bn (r_X4_readExpr b5 (x1 + (1 : Int32))) fun _ => bn (gI 4 6 (some this)) fun v6 => if v6 = (58 : Int32) then F_X4_readExpr_L56 r_X4_readExpr r_X4_readCond r_X4_readSum r_X4_readPart r_X4_readFactor r_X4_readBracket this x1 (0 : Int32) (some this) else F_X4_readExpr_L56 r_X4_readExpr r_X4_readCond r_X4_readSum r_X4_readPart r_X4_readFactor r_X4_readBracket this x1 (1 : Int32) (some this)
set_option maxRecDepth 100000 in
theorem O_X4_readExpr_L26 (Γ : Gam) (D : Nat) (hB : 6 ≤ D) (r_X4_readExpr : Nat → Int32 → M Unit) (hr_X4_readExpr : ∀ (b : Nat) (q0 : Int32), Ct Γ mX4_readExpr D vV [va_rf (some b), .int q0] (r_X4_readExpr b q0)) (r_X4_readCond : Nat → Int32 → M Unit) (hr_X4_readCond : ∀ (b : Nat) (q0 : Int32), Ct Γ mX4_readCond D vV [va_rf (some b), .int q0] (r_X4_readCond b q0)) (r_X4_readSum : Nat → Int32 → M Unit) (hr_X4_readSum : ∀ (b : Nat) (q0 : Int32), Ct Γ mX4_readSum D vV [va_rf (some b), .int q0] (r_X4_readSum b q0)) (r_X4_readPart : Nat → Int32 → M Unit) (hr_X4_readPart : ∀ (b : Nat) (q0 : Int32), Ct Γ mX4_readPart D vV [va_rf (some b), .int q0] (r_X4_readPart b q0)) (r_X4_readFactor : Nat → Int32 → M Unit) (hr_X4_readFactor : ∀ (b : Nat) (q0 : Int32), Ct Γ mX4_readFactor D vV [va_rf (some b), .int q0] (r_X4_readFactor b q0)) (r_X4_readBracket : Nat → Int32 → Int32 → M Unit) (hr_X4_readBracket : ∀ (b : Nat) (q0 : Int32) (q1 : Int32), Ct Γ mX4_readBracket D vV [va_rf (some b), .int q0, .int q1] (r_X4_readBracket b q0 q1)) (this : Nat) (x1 : Int32) (y0 : Int32) (y1 : Option Nat) : Ok Γ mX4_readExpr (D + 1) (qo Γ vV) 26 [(0, va_rf (some this)), (1, .int x1)] [.int y0, va_rf y1] (F_X4_readExpr_L26 r_X4_readExpr r_X4_readCond r_X4_readSum r_X4_readPart r_X4_readFactor r_X4_readBracket this x1 y0 y1) := by
  unfold F_X4_readExpr_L26
  refine ok_iconst (v := (3 : Int32)) (dd TX4_readExpr_0 14 rfl) (by decide) ?_
  refine ok_callVV (cn := 4) [.int y0, .int (3 : Int32)] [] (fun b3 => C_X4_refuseIf Γ b3 y0 (3 : Int32)) rfl cy_X4_refuseIf ml_RX4_52 im_X4_refuseIf se_X4_refuseIf (by omega) (Nat.le_of_ble_eq_true rfl) rfl (dd TX4_readExpr_0 15 rfl) ?_
  refine ok_aload_n (dd TX4_readExpr_0 16 rfl) 0 rfl ?_
  refine ok_callVV (cn := 4) [] [] (fun b4 => C_X4_take Γ b4) rfl cy_X4_take ml_RX4_90 im_X4_take se_X4_take (by omega) (Nat.le_of_ble_eq_true rfl) rfl (dd TX4_readExpr_0 17 rfl) ?_
  refine ok_aload_n (dd TX4_readExpr_0 18 rfl) 0 rfl ?_
  refine ok_iload_n (dd TX4_readExpr_0 19 rfl) 1 rfl ?_
  refine ok_iconst (v := (1 : Int32)) (dd TX4_readExpr_0 20 rfl) (by decide) ?_
  refine ok_iadd (dd TX4_readExpr_0 21 rfl) ?_
  refine ok_callVV (cn := 4) [.int (x1 + (1 : Int32))] [] (fun b5 => hr_X4_readExpr b5 (x1 + (1 : Int32))) rfl cy_X4_readExpr ml_RX4_69 im_X4_readExpr se_X4_readExpr (Nat.le_refl _) (Nat.le_of_ble_eq_true rfl) rfl (dd TX4_readExpr_0 22 rfl) ?_
  refine ok_aload_n (dd TX4_readExpr_0 23 rfl) 0 rfl ?_
  refine ok_aload_n (dd TX4_readExpr_0 24 rfl) 0 rfl ?_
  refine ok_gI fl_RX4_38 rfl (dd TX4_readExpr_0 25 rfl) (fun v6 => ?_)
  refine ok_bipush (v := (58 : Int32)) (dd TX4_readExpr_0 26 rfl) (by decide) ?_
  refine ok_icmp_eq (tgt := 55) (dd TX4_readExpr_0 27 rfl) (by decide) ?_ ?_
  · refine ok_iconst (v := (0 : Int32)) (dd TX4_readExpr_0 30 rfl) (by decide) ?_
    exact O_X4_readExpr_L56 Γ D hB r_X4_readExpr hr_X4_readExpr r_X4_readCond hr_X4_readCond r_X4_readSum hr_X4_readSum r_X4_readPart hr_X4_readPart r_X4_readFactor hr_X4_readFactor r_X4_readBracket hr_X4_readBracket this x1 (0 : Int32) (some this)
  · refine ok_iconst (v := (1 : Int32)) (dd TX4_readExpr_0 28 rfl) (by decide) ?_
    refine ok_goto (tgt := 56) (dd TX4_readExpr_0 29 rfl) (by decide) ?_
    exact O_X4_readExpr_L56 Γ D hB r_X4_readExpr hr_X4_readExpr r_X4_readCond hr_X4_readCond r_X4_readSum hr_X4_readSum r_X4_readPart hr_X4_readPart r_X4_readFactor hr_X4_readFactor r_X4_readBracket hr_X4_readBracket this x1 (1 : Int32) (some this)
def F_X4_readExpr_B (r_X4_readExpr : Nat → Int32 → M Unit) (r_X4_readCond : Nat → Int32 → M Unit) (r_X4_readSum : Nat → Int32 → M Unit) (r_X4_readPart : Nat → Int32 → M Unit) (r_X4_readFactor : Nat → Int32 → M Unit) (r_X4_readBracket : Nat → Int32 → Int32 → M Unit) (this : Nat) (p0 : Int32) : M Unit := bn (pRc 4 (some this)) fun b1 => bn (r_X4_readCond b1 p0) fun _ => bn (gI 4 6 (some this)) fun v2 => if ¬ v2 = (63 : Int32) then rt () else if p0 < (12 : Int32) then F_X4_readExpr_L26 r_X4_readExpr r_X4_readCond r_X4_readSum r_X4_readPart r_X4_readFactor r_X4_readBracket this p0 (0 : Int32) (some this) else F_X4_readExpr_L26 r_X4_readExpr r_X4_readCond r_X4_readSum r_X4_readPart r_X4_readFactor r_X4_readBracket this p0 (1 : Int32) (some this)
set_option maxRecDepth 100000 in
theorem C_X4_readExpr_B (Γ : Gam) (D : Nat) (hB : 6 ≤ D) (r_X4_readExpr : Nat → Int32 → M Unit) (hr_X4_readExpr : ∀ (b : Nat) (q0 : Int32), Ct Γ mX4_readExpr D vV [va_rf (some b), .int q0] (r_X4_readExpr b q0)) (r_X4_readCond : Nat → Int32 → M Unit) (hr_X4_readCond : ∀ (b : Nat) (q0 : Int32), Ct Γ mX4_readCond D vV [va_rf (some b), .int q0] (r_X4_readCond b q0)) (r_X4_readSum : Nat → Int32 → M Unit) (hr_X4_readSum : ∀ (b : Nat) (q0 : Int32), Ct Γ mX4_readSum D vV [va_rf (some b), .int q0] (r_X4_readSum b q0)) (r_X4_readPart : Nat → Int32 → M Unit) (hr_X4_readPart : ∀ (b : Nat) (q0 : Int32), Ct Γ mX4_readPart D vV [va_rf (some b), .int q0] (r_X4_readPart b q0)) (r_X4_readFactor : Nat → Int32 → M Unit) (hr_X4_readFactor : ∀ (b : Nat) (q0 : Int32), Ct Γ mX4_readFactor D vV [va_rf (some b), .int q0] (r_X4_readFactor b q0)) (r_X4_readBracket : Nat → Int32 → Int32 → M Unit) (hr_X4_readBracket : ∀ (b : Nat) (q0 : Int32) (q1 : Int32), Ct Γ mX4_readBracket D vV [va_rf (some b), .int q0, .int q1] (r_X4_readBracket b q0 q1)) (this : Nat) (p0 : Int32) : Ct Γ mX4_readExpr (D + 1) vV [va_rf (some this), .int p0] (F_X4_readExpr_B r_X4_readExpr r_X4_readCond r_X4_readSum r_X4_readPart r_X4_readFactor r_X4_readBracket this p0) := by
  refine ct_in (lv := [(0, va_rf (some this)), (1, .int p0)]) (by decide) (by first | rfl | (simp only [lv_args, cat_rf]; rfl)) (by first | exact Nat.le_of_ble_eq_true rfl | (rw [lg_len]; simp only [List.map_cons, List.map_nil, cat_rf]; exact Nat.le_of_ble_eq_true rfl)) ?_
  unfold F_X4_readExpr_B
  refine ok_aload_n (dd TX4_readExpr_0 0 rfl) 0 rfl ?_
  refine ok_iload_n (dd TX4_readExpr_0 1 rfl) 1 rfl ?_
  refine ok_callVV (cn := 4) [.int p0] [] (fun b1 => hr_X4_readCond b1 p0) rfl cy_X4_readCond ml_RX4_87 im_X4_readCond se_X4_readCond (Nat.le_refl _) (Nat.le_of_ble_eq_true rfl) rfl (dd TX4_readExpr_0 2 rfl) ?_
  refine ok_aload_n (dd TX4_readExpr_0 3 rfl) 0 rfl ?_
  refine ok_gI fl_RX4_38 rfl (dd TX4_readExpr_0 4 rfl) (fun v2 => ?_)
  refine ok_bipush (v := (63 : Int32)) (dd TX4_readExpr_0 5 rfl) (by decide) ?_
  refine ok_icmp_ne (tgt := 77) (dd TX4_readExpr_0 6 rfl) (by decide) ?_ ?_
  · exact ok_return (dd TX4_readExpr_1 3 rfl) rfl
  · refine ok_aload_n (dd TX4_readExpr_0 7 rfl) 0 rfl ?_
    refine ok_iload_n (dd TX4_readExpr_0 8 rfl) 1 rfl ?_
    refine ok_bipush (v := (12 : Int32)) (dd TX4_readExpr_0 9 rfl) (by decide) ?_
    refine ok_icmp_lt (tgt := 25) (dd TX4_readExpr_0 10 rfl) (by decide) ?_ ?_
    · refine ok_iconst (v := (0 : Int32)) (dd TX4_readExpr_0 13 rfl) (by decide) ?_
      exact O_X4_readExpr_L26 Γ D hB r_X4_readExpr hr_X4_readExpr r_X4_readCond hr_X4_readCond r_X4_readSum hr_X4_readSum r_X4_readPart hr_X4_readPart r_X4_readFactor hr_X4_readFactor r_X4_readBracket hr_X4_readBracket this p0 (0 : Int32) (some this)
    · refine ok_iconst (v := (1 : Int32)) (dd TX4_readExpr_0 11 rfl) (by decide) ?_
      refine ok_goto (tgt := 26) (dd TX4_readExpr_0 12 rfl) (by decide) ?_
      exact O_X4_readExpr_L26 Γ D hB r_X4_readExpr hr_X4_readExpr r_X4_readCond hr_X4_readCond r_X4_readSum hr_X4_readSum r_X4_readPart hr_X4_readPart r_X4_readFactor hr_X4_readFactor r_X4_readBracket hr_X4_readBracket this p0 (1 : Int32) (some this)
def F_X4_readCond_L32 (r_X4_readExpr : Nat → Int32 → M Unit) (r_X4_readCond : Nat → Int32 → M Unit) (r_X4_readSum : Nat → Int32 → M Unit) (r_X4_readPart : Nat → Int32 → M Unit) (r_X4_readFactor : Nat → Int32 → M Unit) (r_X4_readBracket : Nat → Int32 → Int32 → M Unit) (this : Nat) (x1 : Int32) : M Unit := bn (gI 4 6 (some this)) fun v5 => bn (pRc 4 (some this)) fun b6 => bn (F_X4_take b6) fun _ => bn (pRc 4 (some this)) fun b7 => bn (r_X4_readSum b7 x1) fun _ => bn (pRc 4 (some this)) fun b8 => bn (F_X4_emit b8 (-v5)) fun _ => rt ()
set_option maxRecDepth 100000 in
theorem O_X4_readCond_L32 (Γ : Gam) (D : Nat) (hB : 6 ≤ D) (r_X4_readExpr : Nat → Int32 → M Unit) (hr_X4_readExpr : ∀ (b : Nat) (q0 : Int32), Ct Γ mX4_readExpr D vV [va_rf (some b), .int q0] (r_X4_readExpr b q0)) (r_X4_readCond : Nat → Int32 → M Unit) (hr_X4_readCond : ∀ (b : Nat) (q0 : Int32), Ct Γ mX4_readCond D vV [va_rf (some b), .int q0] (r_X4_readCond b q0)) (r_X4_readSum : Nat → Int32 → M Unit) (hr_X4_readSum : ∀ (b : Nat) (q0 : Int32), Ct Γ mX4_readSum D vV [va_rf (some b), .int q0] (r_X4_readSum b q0)) (r_X4_readPart : Nat → Int32 → M Unit) (hr_X4_readPart : ∀ (b : Nat) (q0 : Int32), Ct Γ mX4_readPart D vV [va_rf (some b), .int q0] (r_X4_readPart b q0)) (r_X4_readFactor : Nat → Int32 → M Unit) (hr_X4_readFactor : ∀ (b : Nat) (q0 : Int32), Ct Γ mX4_readFactor D vV [va_rf (some b), .int q0] (r_X4_readFactor b q0)) (r_X4_readBracket : Nat → Int32 → Int32 → M Unit) (hr_X4_readBracket : ∀ (b : Nat) (q0 : Int32) (q1 : Int32), Ct Γ mX4_readBracket D vV [va_rf (some b), .int q0, .int q1] (r_X4_readBracket b q0 q1)) (this : Nat) (x1 : Int32) : Ok Γ mX4_readCond (D + 1) (qo Γ vV) 32 [(0, va_rf (some this)), (1, .int x1)] [] (F_X4_readCond_L32 r_X4_readExpr r_X4_readCond r_X4_readSum r_X4_readPart r_X4_readFactor r_X4_readBracket this x1) := by
  unfold F_X4_readCond_L32
  refine ok_aload_n (dd TX4_readCond_0 15 rfl) 0 rfl ?_
  refine ok_gI fl_RX4_38 rfl (dd TX4_readCond_0 16 rfl) (fun v5 => ?_)
  refine ok_istore_n (lv' := [(2, .int v5), (0, va_rf (some this)), (1, .int x1)]) (dd TX4_readCond_0 17 rfl) (by decide) (by first | rfl | (simp only [List.filter, cat_rf]; rfl)) ?_
  refine ok_aload_n (dd TX4_readCond_0 18 rfl) 1 rfl ?_
  refine ok_callVV (cn := 4) [] [] (fun b6 => C_X4_take Γ b6) rfl cy_X4_take ml_RX4_90 im_X4_take se_X4_take (by omega) (Nat.le_of_ble_eq_true rfl) rfl (dd TX4_readCond_0 19 rfl) ?_
  refine ok_aload_n (dd TX4_readCond_0 20 rfl) 1 rfl ?_
  refine ok_iload_n (dd TX4_readCond_0 21 rfl) 2 rfl ?_
  refine ok_callVV (cn := 4) [.int x1] [] (fun b7 => hr_X4_readSum b7 x1) rfl cy_X4_readSum ml_RX4_98 im_X4_readSum se_X4_readSum (Nat.le_refl _) (Nat.le_of_ble_eq_true rfl) rfl (dd TX4_readCond_0 22 rfl) ?_
  refine ok_aload_n (dd TX4_readCond_0 23 rfl) 1 rfl ?_
  refine ok_iload_n (dd TX4_readCond_0 24 rfl) 0 rfl ?_
  refine ok_ineg (dd TX4_readCond_0 25 rfl) ?_
  refine ok_callVV (cn := 4) [.int (-v5)] [] (fun b8 => C_X4_emit Γ b8 (-v5)) rfl cy_X4_emit ml_RX4_95 im_X4_emit se_X4_emit (by omega) (Nat.le_of_ble_eq_true rfl) rfl (dd TX4_readCond_0 26 rfl) ?_
  exact ok_return (dd TX4_readCond_0 27 rfl) rfl
def F_X4_readCond_B (r_X4_readExpr : Nat → Int32 → M Unit) (r_X4_readCond : Nat → Int32 → M Unit) (r_X4_readSum : Nat → Int32 → M Unit) (r_X4_readPart : Nat → Int32 → M Unit) (r_X4_readFactor : Nat → Int32 → M Unit) (r_X4_readBracket : Nat → Int32 → Int32 → M Unit) (this : Nat) (p0 : Int32) : M Unit := bn (pRc 4 (some this)) fun b1 => bn (r_X4_readSum b1 p0) fun _ => bn (gI 4 6 (some this)) fun v2 => if v2 = (60 : Int32) then F_X4_readCond_L32 r_X4_readExpr r_X4_readCond r_X4_readSum r_X4_readPart r_X4_readFactor r_X4_readBracket this p0 else bn (gI 4 6 (some this)) fun v3 => if v3 = (62 : Int32) then F_X4_readCond_L32 r_X4_readExpr r_X4_readCond r_X4_readSum r_X4_readPart r_X4_readFactor r_X4_readBracket this p0 else bn (gI 4 6 (some this)) fun v4 => if ¬ v4 = (61 : Int32) then rt () else F_X4_readCond_L32 r_X4_readExpr r_X4_readCond r_X4_readSum r_X4_readPart r_X4_readFactor r_X4_readBracket this p0
set_option maxRecDepth 100000 in
theorem C_X4_readCond_B (Γ : Gam) (D : Nat) (hB : 6 ≤ D) (r_X4_readExpr : Nat → Int32 → M Unit) (hr_X4_readExpr : ∀ (b : Nat) (q0 : Int32), Ct Γ mX4_readExpr D vV [va_rf (some b), .int q0] (r_X4_readExpr b q0)) (r_X4_readCond : Nat → Int32 → M Unit) (hr_X4_readCond : ∀ (b : Nat) (q0 : Int32), Ct Γ mX4_readCond D vV [va_rf (some b), .int q0] (r_X4_readCond b q0)) (r_X4_readSum : Nat → Int32 → M Unit) (hr_X4_readSum : ∀ (b : Nat) (q0 : Int32), Ct Γ mX4_readSum D vV [va_rf (some b), .int q0] (r_X4_readSum b q0)) (r_X4_readPart : Nat → Int32 → M Unit) (hr_X4_readPart : ∀ (b : Nat) (q0 : Int32), Ct Γ mX4_readPart D vV [va_rf (some b), .int q0] (r_X4_readPart b q0)) (r_X4_readFactor : Nat → Int32 → M Unit) (hr_X4_readFactor : ∀ (b : Nat) (q0 : Int32), Ct Γ mX4_readFactor D vV [va_rf (some b), .int q0] (r_X4_readFactor b q0)) (r_X4_readBracket : Nat → Int32 → Int32 → M Unit) (hr_X4_readBracket : ∀ (b : Nat) (q0 : Int32) (q1 : Int32), Ct Γ mX4_readBracket D vV [va_rf (some b), .int q0, .int q1] (r_X4_readBracket b q0 q1)) (this : Nat) (p0 : Int32) : Ct Γ mX4_readCond (D + 1) vV [va_rf (some this), .int p0] (F_X4_readCond_B r_X4_readExpr r_X4_readCond r_X4_readSum r_X4_readPart r_X4_readFactor r_X4_readBracket this p0) := by
  refine ct_in (lv := [(0, va_rf (some this)), (1, .int p0)]) (by decide) (by first | rfl | (simp only [lv_args, cat_rf]; rfl)) (by first | exact Nat.le_of_ble_eq_true rfl | (rw [lg_len]; simp only [List.map_cons, List.map_nil, cat_rf]; exact Nat.le_of_ble_eq_true rfl)) ?_
  unfold F_X4_readCond_B
  refine ok_aload_n (dd TX4_readCond_0 0 rfl) 0 rfl ?_
  refine ok_iload_n (dd TX4_readCond_0 1 rfl) 1 rfl ?_
  refine ok_callVV (cn := 4) [.int p0] [] (fun b1 => hr_X4_readSum b1 p0) rfl cy_X4_readSum ml_RX4_98 im_X4_readSum se_X4_readSum (Nat.le_refl _) (Nat.le_of_ble_eq_true rfl) rfl (dd TX4_readCond_0 2 rfl) ?_
  refine ok_aload_n (dd TX4_readCond_0 3 rfl) 0 rfl ?_
  refine ok_gI fl_RX4_38 rfl (dd TX4_readCond_0 4 rfl) (fun v2 => ?_)
  refine ok_bipush (v := (60 : Int32)) (dd TX4_readCond_0 5 rfl) (by decide) ?_
  refine ok_icmp_eq (tgt := 32) (dd TX4_readCond_0 6 rfl) (by decide) ?_ ?_
  · exact O_X4_readCond_L32 Γ D hB r_X4_readExpr hr_X4_readExpr r_X4_readCond hr_X4_readCond r_X4_readSum hr_X4_readSum r_X4_readPart hr_X4_readPart r_X4_readFactor hr_X4_readFactor r_X4_readBracket hr_X4_readBracket this p0
  · refine ok_aload_n (dd TX4_readCond_0 7 rfl) 0 rfl ?_
    refine ok_gI fl_RX4_38 rfl (dd TX4_readCond_0 8 rfl) (fun v3 => ?_)
    refine ok_bipush (v := (62 : Int32)) (dd TX4_readCond_0 9 rfl) (by decide) ?_
    refine ok_icmp_eq (tgt := 32) (dd TX4_readCond_0 10 rfl) (by decide) ?_ ?_
    · exact O_X4_readCond_L32 Γ D hB r_X4_readExpr hr_X4_readExpr r_X4_readCond hr_X4_readCond r_X4_readSum hr_X4_readSum r_X4_readPart hr_X4_readPart r_X4_readFactor hr_X4_readFactor r_X4_readBracket hr_X4_readBracket this p0
    · refine ok_aload_n (dd TX4_readCond_0 11 rfl) 0 rfl ?_
      refine ok_gI fl_RX4_38 rfl (dd TX4_readCond_0 12 rfl) (fun v4 => ?_)
      refine ok_bipush (v := (61 : Int32)) (dd TX4_readCond_0 13 rfl) (by decide) ?_
      refine ok_icmp_ne (tgt := 52) (dd TX4_readCond_0 14 rfl) (by decide) ?_ ?_
      · exact ok_return (dd TX4_readCond_0 27 rfl) rfl
      · exact O_X4_readCond_L32 Γ D hB r_X4_readExpr hr_X4_readExpr r_X4_readCond hr_X4_readCond r_X4_readSum hr_X4_readSum r_X4_readPart hr_X4_readPart r_X4_readFactor hr_X4_readFactor r_X4_readBracket hr_X4_readBracket this p0
def F_X4_readSum_L31 (r_X4_readExpr : Nat → Int32 → M Unit) (r_X4_readCond : Nat → Int32 → M Unit) (r_X4_readSum : Nat → Int32 → M Unit) (r_X4_readPart : Nat → Int32 → M Unit) (r_X4_readFactor : Nat → Int32 → M Unit) (r_X4_readBracket : Nat → Int32 → Int32 → M Unit) (k7 : Nat → Int32 → Int32 → M Unit) (this : Nat) (x1 : Int32) (x2 : Int32) : M Unit := bn (gI 4 6 (some this)) fun v4 => bn (pRc 4 (some this)) fun b5 => bn (F_X4_take b5) fun _ => bn (pRc 4 (some this)) fun b6 => bn (r_X4_readPart b6 x1) fun _ => bn (pRc 4 (some this)) fun b7 => bn (F_X4_emit b7 (-v4)) fun _ => k7 this x1 (x2 + (1 : Int32))
set_option maxRecDepth 100000 in
theorem O_X4_readSum_L31 (Γ : Gam) (D : Nat) (hB : 6 ≤ D) (r_X4_readExpr : Nat → Int32 → M Unit) (hr_X4_readExpr : ∀ (b : Nat) (q0 : Int32), Ct Γ mX4_readExpr D vV [va_rf (some b), .int q0] (r_X4_readExpr b q0)) (r_X4_readCond : Nat → Int32 → M Unit) (hr_X4_readCond : ∀ (b : Nat) (q0 : Int32), Ct Γ mX4_readCond D vV [va_rf (some b), .int q0] (r_X4_readCond b q0)) (r_X4_readSum : Nat → Int32 → M Unit) (hr_X4_readSum : ∀ (b : Nat) (q0 : Int32), Ct Γ mX4_readSum D vV [va_rf (some b), .int q0] (r_X4_readSum b q0)) (r_X4_readPart : Nat → Int32 → M Unit) (hr_X4_readPart : ∀ (b : Nat) (q0 : Int32), Ct Γ mX4_readPart D vV [va_rf (some b), .int q0] (r_X4_readPart b q0)) (r_X4_readFactor : Nat → Int32 → M Unit) (hr_X4_readFactor : ∀ (b : Nat) (q0 : Int32), Ct Γ mX4_readFactor D vV [va_rf (some b), .int q0] (r_X4_readFactor b q0)) (r_X4_readBracket : Nat → Int32 → Int32 → M Unit) (hr_X4_readBracket : ∀ (b : Nat) (q0 : Int32) (q1 : Int32), Ct Γ mX4_readBracket D vV [va_rf (some b), .int q0, .int q1] (r_X4_readBracket b q0 q1)) (k7 : Nat → Int32 → Int32 → M Unit) (hk7 : ∀ (z0 : Nat) (z1 : Int32) (z2 : Int32), Ok Γ mX4_readSum (D + 1) (qo Γ vV) 7 [(0, va_rf (some z0)), (1, .int z1), (2, .int z2)] [] (k7 z0 z1 z2)) (this : Nat) (x1 : Int32) (x2 : Int32) : Ok Γ mX4_readSum (D + 1) (qo Γ vV) 31 [(0, va_rf (some this)), (1, .int x1), (2, .int x2)] [] (F_X4_readSum_L31 r_X4_readExpr r_X4_readCond r_X4_readSum r_X4_readPart r_X4_readFactor r_X4_readBracket k7 this x1 x2) := by
  unfold F_X4_readSum_L31
  refine ok_aload_n (dd TX4_readSum_0 16 rfl) 0 rfl ?_
  refine ok_gI fl_RX4_38 rfl (dd TX4_readSum_0 17 rfl) (fun v4 => ?_)
  refine ok_istore_n (lv' := [(3, .int v4), (0, va_rf (some this)), (1, .int x1), (2, .int x2)]) (dd TX4_readSum_0 18 rfl) (by decide) (by first | rfl | (simp only [List.filter, cat_rf]; rfl)) ?_
  refine ok_aload_n (dd TX4_readSum_0 19 rfl) 1 rfl ?_
  refine ok_callVV (cn := 4) [] [] (fun b5 => C_X4_take Γ b5) rfl cy_X4_take ml_RX4_90 im_X4_take se_X4_take (by omega) (Nat.le_of_ble_eq_true rfl) rfl (dd TX4_readSum_0 20 rfl) ?_
  refine ok_aload_n (dd TX4_readSum_0 21 rfl) 1 rfl ?_
  refine ok_iload_n (dd TX4_readSum_0 22 rfl) 2 rfl ?_
  refine ok_callVV (cn := 4) [.int x1] [] (fun b6 => hr_X4_readPart b6 x1) rfl cy_X4_readPart ml_RX4_101 im_X4_readPart se_X4_readPart (Nat.le_refl _) (Nat.le_of_ble_eq_true rfl) rfl (dd TX4_readSum_0 23 rfl) ?_
  refine ok_aload_n (dd TX4_readSum_0 24 rfl) 1 rfl ?_
  refine ok_iload_n (dd TX4_readSum_0 25 rfl) 0 rfl ?_
  refine ok_ineg (dd TX4_readSum_0 26 rfl) ?_
  refine ok_callVV (cn := 4) [.int (-v4)] [] (fun b7 => C_X4_emit Γ b7 (-v4)) rfl cy_X4_emit ml_RX4_95 im_X4_emit se_X4_emit (by omega) (Nat.le_of_ble_eq_true rfl) rfl (dd TX4_readSum_0 27 rfl) ?_
  refine ok_iinc (lv' := [(2, .int (x2 + (1 : Int32))), (3, .int v4), (0, va_rf (some this)), (1, .int x1)]) (dd TX4_readSum_0 28 rfl) 3 rfl (congrArg (fun q : Int32 => x2 + q) (show Int32.ofInt (1) = (1 : Int32) from by decide)) (by decide) (by first | rfl | (simp only [List.filter, cat_rf]; rfl)) ?_
  refine ok_goto (tgt := 7) (dd TX4_readSum_0 29 rfl) (by decide) ?_
  refine ok_sub [2, 3, 0] rfl ?_
  exact hk7 this x1 (x2 + (1 : Int32))
def F_X4_readSum_L7 (r_X4_readExpr : Nat → Int32 → M Unit) (r_X4_readCond : Nat → Int32 → M Unit) (r_X4_readSum : Nat → Int32 → M Unit) (r_X4_readPart : Nat → Int32 → M Unit) (r_X4_readFactor : Nat → Int32 → M Unit) (r_X4_readBracket : Nat → Int32 → Int32 → M Unit) : Nat → Nat → Int32 → Int32 → M Unit
  | 0 => fun _ _ _ => fl
  | n + 1 => fun this x1 x2 => if (60 : Int32) ≤ x2 then rt () else bn (gI 4 6 (some this)) fun v2 => if v2 = (43 : Int32) then F_X4_readSum_L31 r_X4_readExpr r_X4_readCond r_X4_readSum r_X4_readPart r_X4_readFactor r_X4_readBracket (F_X4_readSum_L7 r_X4_readExpr r_X4_readCond r_X4_readSum r_X4_readPart r_X4_readFactor r_X4_readBracket n) this x1 x2 else bn (gI 4 6 (some this)) fun v3 => if ¬ v3 = (45 : Int32) then rt () else F_X4_readSum_L31 r_X4_readExpr r_X4_readCond r_X4_readSum r_X4_readPart r_X4_readFactor r_X4_readBracket (F_X4_readSum_L7 r_X4_readExpr r_X4_readCond r_X4_readSum r_X4_readPart r_X4_readFactor r_X4_readBracket n) this x1 x2
set_option maxRecDepth 100000 in
theorem O_X4_readSum_L7 (Γ : Gam) (D : Nat) (hB : 6 ≤ D) (r_X4_readExpr : Nat → Int32 → M Unit) (hr_X4_readExpr : ∀ (b : Nat) (q0 : Int32), Ct Γ mX4_readExpr D vV [va_rf (some b), .int q0] (r_X4_readExpr b q0)) (r_X4_readCond : Nat → Int32 → M Unit) (hr_X4_readCond : ∀ (b : Nat) (q0 : Int32), Ct Γ mX4_readCond D vV [va_rf (some b), .int q0] (r_X4_readCond b q0)) (r_X4_readSum : Nat → Int32 → M Unit) (hr_X4_readSum : ∀ (b : Nat) (q0 : Int32), Ct Γ mX4_readSum D vV [va_rf (some b), .int q0] (r_X4_readSum b q0)) (r_X4_readPart : Nat → Int32 → M Unit) (hr_X4_readPart : ∀ (b : Nat) (q0 : Int32), Ct Γ mX4_readPart D vV [va_rf (some b), .int q0] (r_X4_readPart b q0)) (r_X4_readFactor : Nat → Int32 → M Unit) (hr_X4_readFactor : ∀ (b : Nat) (q0 : Int32), Ct Γ mX4_readFactor D vV [va_rf (some b), .int q0] (r_X4_readFactor b q0)) (r_X4_readBracket : Nat → Int32 → Int32 → M Unit) (hr_X4_readBracket : ∀ (b : Nat) (q0 : Int32) (q1 : Int32), Ct Γ mX4_readBracket D vV [va_rf (some b), .int q0, .int q1] (r_X4_readBracket b q0 q1)) (n : Nat) : ∀ (this : Nat) (x1 : Int32) (x2 : Int32), Ok Γ mX4_readSum (D + 1) (qo Γ vV) 7 [(0, va_rf (some this)), (1, .int x1), (2, .int x2)] [] (F_X4_readSum_L7 r_X4_readExpr r_X4_readCond r_X4_readSum r_X4_readPart r_X4_readFactor r_X4_readBracket n this x1 x2) := by
  induction n with
  | zero => intro this x1 x2; exact ok_fl
  | succ n ih =>
    intro this x1 x2
    rw [F_X4_readSum_L7]
    refine ok_iload_n (dd TX4_readSum_0 5 rfl) 2 rfl ?_
    refine ok_bipush (v := (60 : Int32)) (dd TX4_readSum_0 6 rfl) (by decide) ?_
    refine ok_icmp_ge (tgt := 57) (dd TX4_readSum_0 7 rfl) (by decide) ?_ ?_
    · exact ok_return (dd TX4_readSum_0 30 rfl) rfl
    · refine ok_aload_n (dd TX4_readSum_0 8 rfl) 0 rfl ?_
      refine ok_gI fl_RX4_38 rfl (dd TX4_readSum_0 9 rfl) (fun v2 => ?_)
      refine ok_bipush (v := (43 : Int32)) (dd TX4_readSum_0 10 rfl) (by decide) ?_
      refine ok_icmp_eq (tgt := 31) (dd TX4_readSum_0 11 rfl) (by decide) ?_ ?_
      · exact O_X4_readSum_L31 Γ D hB r_X4_readExpr hr_X4_readExpr r_X4_readCond hr_X4_readCond r_X4_readSum hr_X4_readSum r_X4_readPart hr_X4_readPart r_X4_readFactor hr_X4_readFactor r_X4_readBracket hr_X4_readBracket (F_X4_readSum_L7 r_X4_readExpr r_X4_readCond r_X4_readSum r_X4_readPart r_X4_readFactor r_X4_readBracket n) ih this x1 x2
      · refine ok_aload_n (dd TX4_readSum_0 12 rfl) 0 rfl ?_
        refine ok_gI fl_RX4_38 rfl (dd TX4_readSum_0 13 rfl) (fun v3 => ?_)
        refine ok_bipush (v := (45 : Int32)) (dd TX4_readSum_0 14 rfl) (by decide) ?_
        refine ok_icmp_ne (tgt := 57) (dd TX4_readSum_0 15 rfl) (by decide) ?_ ?_
        · exact ok_return (dd TX4_readSum_0 30 rfl) rfl
        · exact O_X4_readSum_L31 Γ D hB r_X4_readExpr hr_X4_readExpr r_X4_readCond hr_X4_readCond r_X4_readSum hr_X4_readSum r_X4_readPart hr_X4_readPart r_X4_readFactor hr_X4_readFactor r_X4_readBracket hr_X4_readBracket (F_X4_readSum_L7 r_X4_readExpr r_X4_readCond r_X4_readSum r_X4_readPart r_X4_readFactor r_X4_readBracket n) ih this x1 x2
def F_X4_readSum_B (r_X4_readExpr : Nat → Int32 → M Unit) (r_X4_readCond : Nat → Int32 → M Unit) (r_X4_readSum : Nat → Int32 → M Unit) (r_X4_readPart : Nat → Int32 → M Unit) (r_X4_readFactor : Nat → Int32 → M Unit) (r_X4_readBracket : Nat → Int32 → Int32 → M Unit) (this : Nat) (p0 : Int32) : M Unit := bn (pRc 4 (some this)) fun b1 => bn (r_X4_readPart b1 p0) fun _ => F_X4_readSum_L7 r_X4_readExpr r_X4_readCond r_X4_readSum r_X4_readPart r_X4_readFactor r_X4_readBracket FU this p0 (0 : Int32)
set_option maxRecDepth 100000 in
theorem C_X4_readSum_B (Γ : Gam) (D : Nat) (hB : 6 ≤ D) (r_X4_readExpr : Nat → Int32 → M Unit) (hr_X4_readExpr : ∀ (b : Nat) (q0 : Int32), Ct Γ mX4_readExpr D vV [va_rf (some b), .int q0] (r_X4_readExpr b q0)) (r_X4_readCond : Nat → Int32 → M Unit) (hr_X4_readCond : ∀ (b : Nat) (q0 : Int32), Ct Γ mX4_readCond D vV [va_rf (some b), .int q0] (r_X4_readCond b q0)) (r_X4_readSum : Nat → Int32 → M Unit) (hr_X4_readSum : ∀ (b : Nat) (q0 : Int32), Ct Γ mX4_readSum D vV [va_rf (some b), .int q0] (r_X4_readSum b q0)) (r_X4_readPart : Nat → Int32 → M Unit) (hr_X4_readPart : ∀ (b : Nat) (q0 : Int32), Ct Γ mX4_readPart D vV [va_rf (some b), .int q0] (r_X4_readPart b q0)) (r_X4_readFactor : Nat → Int32 → M Unit) (hr_X4_readFactor : ∀ (b : Nat) (q0 : Int32), Ct Γ mX4_readFactor D vV [va_rf (some b), .int q0] (r_X4_readFactor b q0)) (r_X4_readBracket : Nat → Int32 → Int32 → M Unit) (hr_X4_readBracket : ∀ (b : Nat) (q0 : Int32) (q1 : Int32), Ct Γ mX4_readBracket D vV [va_rf (some b), .int q0, .int q1] (r_X4_readBracket b q0 q1)) (this : Nat) (p0 : Int32) : Ct Γ mX4_readSum (D + 1) vV [va_rf (some this), .int p0] (F_X4_readSum_B r_X4_readExpr r_X4_readCond r_X4_readSum r_X4_readPart r_X4_readFactor r_X4_readBracket this p0) := by
  refine ct_in (lv := [(0, va_rf (some this)), (1, .int p0)]) (by decide) (by first | rfl | (simp only [lv_args, cat_rf]; rfl)) (by first | exact Nat.le_of_ble_eq_true rfl | (rw [lg_len]; simp only [List.map_cons, List.map_nil, cat_rf]; exact Nat.le_of_ble_eq_true rfl)) ?_
  unfold F_X4_readSum_B
  refine ok_aload_n (dd TX4_readSum_0 0 rfl) 0 rfl ?_
  refine ok_iload_n (dd TX4_readSum_0 1 rfl) 1 rfl ?_
  refine ok_callVV (cn := 4) [.int p0] [] (fun b1 => hr_X4_readPart b1 p0) rfl cy_X4_readPart ml_RX4_101 im_X4_readPart se_X4_readPart (Nat.le_refl _) (Nat.le_of_ble_eq_true rfl) rfl (dd TX4_readSum_0 2 rfl) ?_
  refine ok_iconst (v := (0 : Int32)) (dd TX4_readSum_0 3 rfl) (by decide) ?_
  refine ok_istore_n (lv' := [(2, .int (0 : Int32)), (0, va_rf (some this)), (1, .int p0)]) (dd TX4_readSum_0 4 rfl) (by decide) (by first | rfl | (simp only [List.filter, cat_rf]; rfl)) ?_
  refine ok_sub [1, 2, 0] rfl ?_
  exact O_X4_readSum_L7 Γ D hB r_X4_readExpr hr_X4_readExpr r_X4_readCond hr_X4_readCond r_X4_readSum hr_X4_readSum r_X4_readPart hr_X4_readPart r_X4_readFactor hr_X4_readFactor r_X4_readBracket hr_X4_readBracket FU this p0 (0 : Int32)
def F_X4_readPart_L31 (r_X4_readExpr : Nat → Int32 → M Unit) (r_X4_readCond : Nat → Int32 → M Unit) (r_X4_readSum : Nat → Int32 → M Unit) (r_X4_readPart : Nat → Int32 → M Unit) (r_X4_readFactor : Nat → Int32 → M Unit) (r_X4_readBracket : Nat → Int32 → Int32 → M Unit) (k7 : Nat → Int32 → Int32 → M Unit) (this : Nat) (x1 : Int32) (x2 : Int32) : M Unit := bn (gI 4 6 (some this)) fun v4 => bn (pRc 4 (some this)) fun b5 => bn (F_X4_take b5) fun _ => bn (pRc 4 (some this)) fun b6 => bn (r_X4_readFactor b6 x1) fun _ => bn (pRc 4 (some this)) fun b7 => bn (F_X4_emit b7 (-v4)) fun _ => k7 this x1 (x2 + (1 : Int32))
set_option maxRecDepth 100000 in
theorem O_X4_readPart_L31 (Γ : Gam) (D : Nat) (hB : 6 ≤ D) (r_X4_readExpr : Nat → Int32 → M Unit) (hr_X4_readExpr : ∀ (b : Nat) (q0 : Int32), Ct Γ mX4_readExpr D vV [va_rf (some b), .int q0] (r_X4_readExpr b q0)) (r_X4_readCond : Nat → Int32 → M Unit) (hr_X4_readCond : ∀ (b : Nat) (q0 : Int32), Ct Γ mX4_readCond D vV [va_rf (some b), .int q0] (r_X4_readCond b q0)) (r_X4_readSum : Nat → Int32 → M Unit) (hr_X4_readSum : ∀ (b : Nat) (q0 : Int32), Ct Γ mX4_readSum D vV [va_rf (some b), .int q0] (r_X4_readSum b q0)) (r_X4_readPart : Nat → Int32 → M Unit) (hr_X4_readPart : ∀ (b : Nat) (q0 : Int32), Ct Γ mX4_readPart D vV [va_rf (some b), .int q0] (r_X4_readPart b q0)) (r_X4_readFactor : Nat → Int32 → M Unit) (hr_X4_readFactor : ∀ (b : Nat) (q0 : Int32), Ct Γ mX4_readFactor D vV [va_rf (some b), .int q0] (r_X4_readFactor b q0)) (r_X4_readBracket : Nat → Int32 → Int32 → M Unit) (hr_X4_readBracket : ∀ (b : Nat) (q0 : Int32) (q1 : Int32), Ct Γ mX4_readBracket D vV [va_rf (some b), .int q0, .int q1] (r_X4_readBracket b q0 q1)) (k7 : Nat → Int32 → Int32 → M Unit) (hk7 : ∀ (z0 : Nat) (z1 : Int32) (z2 : Int32), Ok Γ mX4_readPart (D + 1) (qo Γ vV) 7 [(0, va_rf (some z0)), (1, .int z1), (2, .int z2)] [] (k7 z0 z1 z2)) (this : Nat) (x1 : Int32) (x2 : Int32) : Ok Γ mX4_readPart (D + 1) (qo Γ vV) 31 [(0, va_rf (some this)), (1, .int x1), (2, .int x2)] [] (F_X4_readPart_L31 r_X4_readExpr r_X4_readCond r_X4_readSum r_X4_readPart r_X4_readFactor r_X4_readBracket k7 this x1 x2) := by
  unfold F_X4_readPart_L31
  refine ok_aload_n (dd TX4_readPart_0 16 rfl) 0 rfl ?_
  refine ok_gI fl_RX4_38 rfl (dd TX4_readPart_0 17 rfl) (fun v4 => ?_)
  refine ok_istore_n (lv' := [(3, .int v4), (0, va_rf (some this)), (1, .int x1), (2, .int x2)]) (dd TX4_readPart_0 18 rfl) (by decide) (by first | rfl | (simp only [List.filter, cat_rf]; rfl)) ?_
  refine ok_aload_n (dd TX4_readPart_0 19 rfl) 1 rfl ?_
  refine ok_callVV (cn := 4) [] [] (fun b5 => C_X4_take Γ b5) rfl cy_X4_take ml_RX4_90 im_X4_take se_X4_take (by omega) (Nat.le_of_ble_eq_true rfl) rfl (dd TX4_readPart_0 20 rfl) ?_
  refine ok_aload_n (dd TX4_readPart_0 21 rfl) 1 rfl ?_
  refine ok_iload_n (dd TX4_readPart_0 22 rfl) 2 rfl ?_
  refine ok_callVV (cn := 4) [.int x1] [] (fun b6 => hr_X4_readFactor b6 x1) rfl cy_X4_readFactor ml_RX4_104 im_X4_readFactor se_X4_readFactor (Nat.le_refl _) (Nat.le_of_ble_eq_true rfl) rfl (dd TX4_readPart_0 23 rfl) ?_
  refine ok_aload_n (dd TX4_readPart_0 24 rfl) 1 rfl ?_
  refine ok_iload_n (dd TX4_readPart_0 25 rfl) 0 rfl ?_
  refine ok_ineg (dd TX4_readPart_0 26 rfl) ?_
  refine ok_callVV (cn := 4) [.int (-v4)] [] (fun b7 => C_X4_emit Γ b7 (-v4)) rfl cy_X4_emit ml_RX4_95 im_X4_emit se_X4_emit (by omega) (Nat.le_of_ble_eq_true rfl) rfl (dd TX4_readPart_0 27 rfl) ?_
  refine ok_iinc (lv' := [(2, .int (x2 + (1 : Int32))), (3, .int v4), (0, va_rf (some this)), (1, .int x1)]) (dd TX4_readPart_0 28 rfl) 3 rfl (congrArg (fun q : Int32 => x2 + q) (show Int32.ofInt (1) = (1 : Int32) from by decide)) (by decide) (by first | rfl | (simp only [List.filter, cat_rf]; rfl)) ?_
  refine ok_goto (tgt := 7) (dd TX4_readPart_0 29 rfl) (by decide) ?_
  refine ok_sub [2, 3, 0] rfl ?_
  exact hk7 this x1 (x2 + (1 : Int32))
def F_X4_readPart_L7 (r_X4_readExpr : Nat → Int32 → M Unit) (r_X4_readCond : Nat → Int32 → M Unit) (r_X4_readSum : Nat → Int32 → M Unit) (r_X4_readPart : Nat → Int32 → M Unit) (r_X4_readFactor : Nat → Int32 → M Unit) (r_X4_readBracket : Nat → Int32 → Int32 → M Unit) : Nat → Nat → Int32 → Int32 → M Unit
  | 0 => fun _ _ _ => fl
  | n + 1 => fun this x1 x2 => if (60 : Int32) ≤ x2 then rt () else bn (gI 4 6 (some this)) fun v2 => if v2 = (42 : Int32) then F_X4_readPart_L31 r_X4_readExpr r_X4_readCond r_X4_readSum r_X4_readPart r_X4_readFactor r_X4_readBracket (F_X4_readPart_L7 r_X4_readExpr r_X4_readCond r_X4_readSum r_X4_readPart r_X4_readFactor r_X4_readBracket n) this x1 x2 else bn (gI 4 6 (some this)) fun v3 => if ¬ v3 = (47 : Int32) then rt () else F_X4_readPart_L31 r_X4_readExpr r_X4_readCond r_X4_readSum r_X4_readPart r_X4_readFactor r_X4_readBracket (F_X4_readPart_L7 r_X4_readExpr r_X4_readCond r_X4_readSum r_X4_readPart r_X4_readFactor r_X4_readBracket n) this x1 x2
set_option maxRecDepth 100000 in
theorem O_X4_readPart_L7 (Γ : Gam) (D : Nat) (hB : 6 ≤ D) (r_X4_readExpr : Nat → Int32 → M Unit) (hr_X4_readExpr : ∀ (b : Nat) (q0 : Int32), Ct Γ mX4_readExpr D vV [va_rf (some b), .int q0] (r_X4_readExpr b q0)) (r_X4_readCond : Nat → Int32 → M Unit) (hr_X4_readCond : ∀ (b : Nat) (q0 : Int32), Ct Γ mX4_readCond D vV [va_rf (some b), .int q0] (r_X4_readCond b q0)) (r_X4_readSum : Nat → Int32 → M Unit) (hr_X4_readSum : ∀ (b : Nat) (q0 : Int32), Ct Γ mX4_readSum D vV [va_rf (some b), .int q0] (r_X4_readSum b q0)) (r_X4_readPart : Nat → Int32 → M Unit) (hr_X4_readPart : ∀ (b : Nat) (q0 : Int32), Ct Γ mX4_readPart D vV [va_rf (some b), .int q0] (r_X4_readPart b q0)) (r_X4_readFactor : Nat → Int32 → M Unit) (hr_X4_readFactor : ∀ (b : Nat) (q0 : Int32), Ct Γ mX4_readFactor D vV [va_rf (some b), .int q0] (r_X4_readFactor b q0)) (r_X4_readBracket : Nat → Int32 → Int32 → M Unit) (hr_X4_readBracket : ∀ (b : Nat) (q0 : Int32) (q1 : Int32), Ct Γ mX4_readBracket D vV [va_rf (some b), .int q0, .int q1] (r_X4_readBracket b q0 q1)) (n : Nat) : ∀ (this : Nat) (x1 : Int32) (x2 : Int32), Ok Γ mX4_readPart (D + 1) (qo Γ vV) 7 [(0, va_rf (some this)), (1, .int x1), (2, .int x2)] [] (F_X4_readPart_L7 r_X4_readExpr r_X4_readCond r_X4_readSum r_X4_readPart r_X4_readFactor r_X4_readBracket n this x1 x2) := by
  induction n with
  | zero => intro this x1 x2; exact ok_fl
  | succ n ih =>
    intro this x1 x2
    rw [F_X4_readPart_L7]
    refine ok_iload_n (dd TX4_readPart_0 5 rfl) 2 rfl ?_
    refine ok_bipush (v := (60 : Int32)) (dd TX4_readPart_0 6 rfl) (by decide) ?_
    refine ok_icmp_ge (tgt := 57) (dd TX4_readPart_0 7 rfl) (by decide) ?_ ?_
    · exact ok_return (dd TX4_readPart_0 30 rfl) rfl
    · refine ok_aload_n (dd TX4_readPart_0 8 rfl) 0 rfl ?_
      refine ok_gI fl_RX4_38 rfl (dd TX4_readPart_0 9 rfl) (fun v2 => ?_)
      refine ok_bipush (v := (42 : Int32)) (dd TX4_readPart_0 10 rfl) (by decide) ?_
      refine ok_icmp_eq (tgt := 31) (dd TX4_readPart_0 11 rfl) (by decide) ?_ ?_
      · exact O_X4_readPart_L31 Γ D hB r_X4_readExpr hr_X4_readExpr r_X4_readCond hr_X4_readCond r_X4_readSum hr_X4_readSum r_X4_readPart hr_X4_readPart r_X4_readFactor hr_X4_readFactor r_X4_readBracket hr_X4_readBracket (F_X4_readPart_L7 r_X4_readExpr r_X4_readCond r_X4_readSum r_X4_readPart r_X4_readFactor r_X4_readBracket n) ih this x1 x2
      · refine ok_aload_n (dd TX4_readPart_0 12 rfl) 0 rfl ?_
        refine ok_gI fl_RX4_38 rfl (dd TX4_readPart_0 13 rfl) (fun v3 => ?_)
        refine ok_bipush (v := (47 : Int32)) (dd TX4_readPart_0 14 rfl) (by decide) ?_
        refine ok_icmp_ne (tgt := 57) (dd TX4_readPart_0 15 rfl) (by decide) ?_ ?_
        · exact ok_return (dd TX4_readPart_0 30 rfl) rfl
        · exact O_X4_readPart_L31 Γ D hB r_X4_readExpr hr_X4_readExpr r_X4_readCond hr_X4_readCond r_X4_readSum hr_X4_readSum r_X4_readPart hr_X4_readPart r_X4_readFactor hr_X4_readFactor r_X4_readBracket hr_X4_readBracket (F_X4_readPart_L7 r_X4_readExpr r_X4_readCond r_X4_readSum r_X4_readPart r_X4_readFactor r_X4_readBracket n) ih this x1 x2
def F_X4_readPart_B (r_X4_readExpr : Nat → Int32 → M Unit) (r_X4_readCond : Nat → Int32 → M Unit) (r_X4_readSum : Nat → Int32 → M Unit) (r_X4_readPart : Nat → Int32 → M Unit) (r_X4_readFactor : Nat → Int32 → M Unit) (r_X4_readBracket : Nat → Int32 → Int32 → M Unit) (this : Nat) (p0 : Int32) : M Unit := bn (pRc 4 (some this)) fun b1 => bn (r_X4_readFactor b1 p0) fun _ => F_X4_readPart_L7 r_X4_readExpr r_X4_readCond r_X4_readSum r_X4_readPart r_X4_readFactor r_X4_readBracket FU this p0 (0 : Int32)
set_option maxRecDepth 100000 in
theorem C_X4_readPart_B (Γ : Gam) (D : Nat) (hB : 6 ≤ D) (r_X4_readExpr : Nat → Int32 → M Unit) (hr_X4_readExpr : ∀ (b : Nat) (q0 : Int32), Ct Γ mX4_readExpr D vV [va_rf (some b), .int q0] (r_X4_readExpr b q0)) (r_X4_readCond : Nat → Int32 → M Unit) (hr_X4_readCond : ∀ (b : Nat) (q0 : Int32), Ct Γ mX4_readCond D vV [va_rf (some b), .int q0] (r_X4_readCond b q0)) (r_X4_readSum : Nat → Int32 → M Unit) (hr_X4_readSum : ∀ (b : Nat) (q0 : Int32), Ct Γ mX4_readSum D vV [va_rf (some b), .int q0] (r_X4_readSum b q0)) (r_X4_readPart : Nat → Int32 → M Unit) (hr_X4_readPart : ∀ (b : Nat) (q0 : Int32), Ct Γ mX4_readPart D vV [va_rf (some b), .int q0] (r_X4_readPart b q0)) (r_X4_readFactor : Nat → Int32 → M Unit) (hr_X4_readFactor : ∀ (b : Nat) (q0 : Int32), Ct Γ mX4_readFactor D vV [va_rf (some b), .int q0] (r_X4_readFactor b q0)) (r_X4_readBracket : Nat → Int32 → Int32 → M Unit) (hr_X4_readBracket : ∀ (b : Nat) (q0 : Int32) (q1 : Int32), Ct Γ mX4_readBracket D vV [va_rf (some b), .int q0, .int q1] (r_X4_readBracket b q0 q1)) (this : Nat) (p0 : Int32) : Ct Γ mX4_readPart (D + 1) vV [va_rf (some this), .int p0] (F_X4_readPart_B r_X4_readExpr r_X4_readCond r_X4_readSum r_X4_readPart r_X4_readFactor r_X4_readBracket this p0) := by
  refine ct_in (lv := [(0, va_rf (some this)), (1, .int p0)]) (by decide) (by first | rfl | (simp only [lv_args, cat_rf]; rfl)) (by first | exact Nat.le_of_ble_eq_true rfl | (rw [lg_len]; simp only [List.map_cons, List.map_nil, cat_rf]; exact Nat.le_of_ble_eq_true rfl)) ?_
  unfold F_X4_readPart_B
  refine ok_aload_n (dd TX4_readPart_0 0 rfl) 0 rfl ?_
  refine ok_iload_n (dd TX4_readPart_0 1 rfl) 1 rfl ?_
  refine ok_callVV (cn := 4) [.int p0] [] (fun b1 => hr_X4_readFactor b1 p0) rfl cy_X4_readFactor ml_RX4_104 im_X4_readFactor se_X4_readFactor (Nat.le_refl _) (Nat.le_of_ble_eq_true rfl) rfl (dd TX4_readPart_0 2 rfl) ?_
  refine ok_iconst (v := (0 : Int32)) (dd TX4_readPart_0 3 rfl) (by decide) ?_
  refine ok_istore_n (lv' := [(2, .int (0 : Int32)), (0, va_rf (some this)), (1, .int p0)]) (dd TX4_readPart_0 4 rfl) (by decide) (by first | rfl | (simp only [List.filter, cat_rf]; rfl)) ?_
  refine ok_sub [1, 2, 0] rfl ?_
  exact O_X4_readPart_L7 Γ D hB r_X4_readExpr hr_X4_readExpr r_X4_readCond hr_X4_readCond r_X4_readSum hr_X4_readSum r_X4_readPart hr_X4_readPart r_X4_readFactor hr_X4_readFactor r_X4_readBracket hr_X4_readBracket FU this p0 (0 : Int32)
def F_X4_readFactor_L167 (r_X4_readExpr : Nat → Int32 → M Unit) (r_X4_readCond : Nat → Int32 → M Unit) (r_X4_readSum : Nat → Int32 → M Unit) (r_X4_readPart : Nat → Int32 → M Unit) (r_X4_readFactor : Nat → Int32 → M Unit) (r_X4_readBracket : Nat → Int32 → Int32 → M Unit) (this : Nat) (x1 : Int32) (x2 : Int32) (y0 : Int32) (y1 : Option Nat) : M Unit := bn (pRc 4 y1) fun b23 => bn (F_X4_refuseIf b23 y0 (2 : Int32)) fun _ => bn (pRc 4 (some this)) fun b24 => bn (r_X4_readBracket b24 x1 (1 : Int32)) fun _ => bn (pRc 4 (some this)) fun b25 => bn (F_X4_emit b25 (-x2)) fun _ => rt ()
set_option maxRecDepth 100000 in
theorem O_X4_readFactor_L167 (Γ : Gam) (D : Nat) (hB : 6 ≤ D) (r_X4_readExpr : Nat → Int32 → M Unit) (hr_X4_readExpr : ∀ (b : Nat) (q0 : Int32), Ct Γ mX4_readExpr D vV [va_rf (some b), .int q0] (r_X4_readExpr b q0)) (r_X4_readCond : Nat → Int32 → M Unit) (hr_X4_readCond : ∀ (b : Nat) (q0 : Int32), Ct Γ mX4_readCond D vV [va_rf (some b), .int q0] (r_X4_readCond b q0)) (r_X4_readSum : Nat → Int32 → M Unit) (hr_X4_readSum : ∀ (b : Nat) (q0 : Int32), Ct Γ mX4_readSum D vV [va_rf (some b), .int q0] (r_X4_readSum b q0)) (r_X4_readPart : Nat → Int32 → M Unit) (hr_X4_readPart : ∀ (b : Nat) (q0 : Int32), Ct Γ mX4_readPart D vV [va_rf (some b), .int q0] (r_X4_readPart b q0)) (r_X4_readFactor : Nat → Int32 → M Unit) (hr_X4_readFactor : ∀ (b : Nat) (q0 : Int32), Ct Γ mX4_readFactor D vV [va_rf (some b), .int q0] (r_X4_readFactor b q0)) (r_X4_readBracket : Nat → Int32 → Int32 → M Unit) (hr_X4_readBracket : ∀ (b : Nat) (q0 : Int32) (q1 : Int32), Ct Γ mX4_readBracket D vV [va_rf (some b), .int q0, .int q1] (r_X4_readBracket b q0 q1)) (this : Nat) (x1 : Int32) (x2 : Int32) (y0 : Int32) (y1 : Option Nat) : Ok Γ mX4_readFactor (D + 1) (qo Γ vV) 167 [(0, va_rf (some this)), (1, .int x1), (2, .int x2)] [.int y0, va_rf y1] (F_X4_readFactor_L167 r_X4_readExpr r_X4_readCond r_X4_readSum r_X4_readPart r_X4_readFactor r_X4_readBracket this x1 x2 y0 y1) := by
  unfold F_X4_readFactor_L167
  refine ok_iconst (v := (2 : Int32)) (dd TX4_readFactor_2 4 rfl) (by decide) ?_
  refine ok_callVV (cn := 4) [.int y0, .int (2 : Int32)] [] (fun b23 => C_X4_refuseIf Γ b23 y0 (2 : Int32)) rfl cy_X4_refuseIf ml_RX4_52 im_X4_refuseIf se_X4_refuseIf (by omega) (Nat.le_of_ble_eq_true rfl) rfl (dd TX4_readFactor_2 5 rfl) ?_
  refine ok_aload_n (dd TX4_readFactor_2 6 rfl) 0 rfl ?_
  refine ok_iload_n (dd TX4_readFactor_2 7 rfl) 1 rfl ?_
  refine ok_iconst (v := (1 : Int32)) (dd TX4_readFactor_2 8 rfl) (by decide) ?_
  refine ok_callVV (cn := 4) [.int x1, .int (1 : Int32)] [] (fun b24 => hr_X4_readBracket b24 x1 (1 : Int32)) rfl cy_X4_readBracket ml_RX4_107 im_X4_readBracket se_X4_readBracket (Nat.le_refl _) (Nat.le_of_ble_eq_true rfl) rfl (dd TX4_readFactor_2 9 rfl) ?_
  refine ok_aload_n (dd TX4_readFactor_2 10 rfl) 0 rfl ?_
  refine ok_iload_n (dd TX4_readFactor_2 11 rfl) 2 rfl ?_
  refine ok_ineg (dd TX4_readFactor_2 12 rfl) ?_
  refine ok_callVV (cn := 4) [.int (-x2)] [] (fun b25 => C_X4_emit Γ b25 (-x2)) rfl cy_X4_emit ml_RX4_95 im_X4_emit se_X4_emit (by omega) (Nat.le_of_ble_eq_true rfl) rfl (dd TX4_readFactor_2 13 rfl) ?_
  refine ok_goto (tgt := 192) (dd TX4_readFactor_2 14 rfl) (by decide) ?_
  exact ok_return (dd TX4_readFactor_2 19 rfl) rfl
def F_X4_readFactor_L143 (r_X4_readExpr : Nat → Int32 → M Unit) (r_X4_readCond : Nat → Int32 → M Unit) (r_X4_readSum : Nat → Int32 → M Unit) (r_X4_readPart : Nat → Int32 → M Unit) (r_X4_readFactor : Nat → Int32 → M Unit) (r_X4_readBracket : Nat → Int32 → Int32 → M Unit) (this : Nat) (x1 : Int32) : M Unit := bn (gI 4 6 (some this)) fun v16 => bn (pRc 4 (some this)) fun b17 => bn (F_X4_take b17) fun _ => bn (gI 4 6 (some this)) fun v18 => if v18 = (40 : Int32) then F_X4_readFactor_L167 r_X4_readExpr r_X4_readCond r_X4_readSum r_X4_readPart r_X4_readFactor r_X4_readBracket this x1 v16 (0 : Int32) (some this) else F_X4_readFactor_L167 r_X4_readExpr r_X4_readCond r_X4_readSum r_X4_readPart r_X4_readFactor r_X4_readBracket this x1 v16 (1 : Int32) (some this)
set_option maxRecDepth 100000 in
theorem O_X4_readFactor_L143 (Γ : Gam) (D : Nat) (hB : 6 ≤ D) (r_X4_readExpr : Nat → Int32 → M Unit) (hr_X4_readExpr : ∀ (b : Nat) (q0 : Int32), Ct Γ mX4_readExpr D vV [va_rf (some b), .int q0] (r_X4_readExpr b q0)) (r_X4_readCond : Nat → Int32 → M Unit) (hr_X4_readCond : ∀ (b : Nat) (q0 : Int32), Ct Γ mX4_readCond D vV [va_rf (some b), .int q0] (r_X4_readCond b q0)) (r_X4_readSum : Nat → Int32 → M Unit) (hr_X4_readSum : ∀ (b : Nat) (q0 : Int32), Ct Γ mX4_readSum D vV [va_rf (some b), .int q0] (r_X4_readSum b q0)) (r_X4_readPart : Nat → Int32 → M Unit) (hr_X4_readPart : ∀ (b : Nat) (q0 : Int32), Ct Γ mX4_readPart D vV [va_rf (some b), .int q0] (r_X4_readPart b q0)) (r_X4_readFactor : Nat → Int32 → M Unit) (hr_X4_readFactor : ∀ (b : Nat) (q0 : Int32), Ct Γ mX4_readFactor D vV [va_rf (some b), .int q0] (r_X4_readFactor b q0)) (r_X4_readBracket : Nat → Int32 → Int32 → M Unit) (hr_X4_readBracket : ∀ (b : Nat) (q0 : Int32) (q1 : Int32), Ct Γ mX4_readBracket D vV [va_rf (some b), .int q0, .int q1] (r_X4_readBracket b q0 q1)) (this : Nat) (x1 : Int32) : Ok Γ mX4_readFactor (D + 1) (qo Γ vV) 143 [(0, va_rf (some this)), (1, .int x1)] [] (F_X4_readFactor_L143 r_X4_readExpr r_X4_readCond r_X4_readSum r_X4_readPart r_X4_readFactor r_X4_readBracket this x1) := by
  unfold F_X4_readFactor_L143
  refine ok_aload_n (dd TX4_readFactor_1 31 rfl) 0 rfl ?_
  refine ok_gI fl_RX4_38 rfl (dd TX4_readFactor_1 32 rfl) (fun v16 => ?_)
  refine ok_istore_n (lv' := [(2, .int v16), (0, va_rf (some this)), (1, .int x1)]) (dd TX4_readFactor_1 33 rfl) (by decide) (by first | rfl | (simp only [List.filter, cat_rf]; rfl)) ?_
  refine ok_aload_n (dd TX4_readFactor_1 34 rfl) 1 rfl ?_
  refine ok_callVV (cn := 4) [] [] (fun b17 => C_X4_take Γ b17) rfl cy_X4_take ml_RX4_90 im_X4_take se_X4_take (by omega) (Nat.le_of_ble_eq_true rfl) rfl (dd TX4_readFactor_1 35 rfl) ?_
  refine ok_aload_n (dd TX4_readFactor_1 36 rfl) 1 rfl ?_
  refine ok_aload_n (dd TX4_readFactor_1 37 rfl) 1 rfl ?_
  refine ok_gI fl_RX4_38 rfl (dd TX4_readFactor_1 38 rfl) (fun v18 => ?_)
  refine ok_bipush (v := (40 : Int32)) (dd TX4_readFactor_1 39 rfl) (by decide) ?_
  refine ok_icmp_eq (tgt := 166) (dd TX4_readFactor_2 0 rfl) (by decide) ?_ ?_
  · refine ok_iconst (v := (0 : Int32)) (dd TX4_readFactor_2 3 rfl) (by decide) ?_
    refine ok_sub [1, 2, 0] rfl ?_
    exact O_X4_readFactor_L167 Γ D hB r_X4_readExpr hr_X4_readExpr r_X4_readCond hr_X4_readCond r_X4_readSum hr_X4_readSum r_X4_readPart hr_X4_readPart r_X4_readFactor hr_X4_readFactor r_X4_readBracket hr_X4_readBracket this x1 v16 (0 : Int32) (some this)
  · refine ok_iconst (v := (1 : Int32)) (dd TX4_readFactor_2 1 rfl) (by decide) ?_
    refine ok_goto (tgt := 167) (dd TX4_readFactor_2 2 rfl) (by decide) ?_
    refine ok_sub [1, 2, 0] rfl ?_
    exact O_X4_readFactor_L167 Γ D hB r_X4_readExpr hr_X4_readExpr r_X4_readCond hr_X4_readCond r_X4_readSum hr_X4_readSum r_X4_readPart hr_X4_readPart r_X4_readFactor hr_X4_readFactor r_X4_readBracket hr_X4_readBracket this x1 v16 (1 : Int32) (some this)
def F_X4_readFactor_L83 (r_X4_readExpr : Nat → Int32 → M Unit) (r_X4_readCond : Nat → Int32 → M Unit) (r_X4_readSum : Nat → Int32 → M Unit) (r_X4_readPart : Nat → Int32 → M Unit) (r_X4_readFactor : Nat → Int32 → M Unit) (r_X4_readBracket : Nat → Int32 → Int32 → M Unit) (this : Nat) (x1 : Int32) (y0 : Int32) (y1 : Option Nat) : M Unit := bn (pRc 4 y1) fun b19 => bn (F_X4_refuseIf b19 y0 (3 : Int32)) fun _ => bn (pRc 4 (some this)) fun b20 => bn (F_X4_take b20) fun _ => bn (pRc 4 (some this)) fun b21 => bn (r_X4_readFactor b21 (x1 + (1 : Int32))) fun _ => bn (pRc 4 (some this)) fun b22 => bn (F_X4_emit b22 (-7 : Int32)) fun _ => rt ()
set_option maxRecDepth 100000 in
theorem O_X4_readFactor_L83 (Γ : Gam) (D : Nat) (hB : 6 ≤ D) (r_X4_readExpr : Nat → Int32 → M Unit) (hr_X4_readExpr : ∀ (b : Nat) (q0 : Int32), Ct Γ mX4_readExpr D vV [va_rf (some b), .int q0] (r_X4_readExpr b q0)) (r_X4_readCond : Nat → Int32 → M Unit) (hr_X4_readCond : ∀ (b : Nat) (q0 : Int32), Ct Γ mX4_readCond D vV [va_rf (some b), .int q0] (r_X4_readCond b q0)) (r_X4_readSum : Nat → Int32 → M Unit) (hr_X4_readSum : ∀ (b : Nat) (q0 : Int32), Ct Γ mX4_readSum D vV [va_rf (some b), .int q0] (r_X4_readSum b q0)) (r_X4_readPart : Nat → Int32 → M Unit) (hr_X4_readPart : ∀ (b : Nat) (q0 : Int32), Ct Γ mX4_readPart D vV [va_rf (some b), .int q0] (r_X4_readPart b q0)) (r_X4_readFactor : Nat → Int32 → M Unit) (hr_X4_readFactor : ∀ (b : Nat) (q0 : Int32), Ct Γ mX4_readFactor D vV [va_rf (some b), .int q0] (r_X4_readFactor b q0)) (r_X4_readBracket : Nat → Int32 → Int32 → M Unit) (hr_X4_readBracket : ∀ (b : Nat) (q0 : Int32) (q1 : Int32), Ct Γ mX4_readBracket D vV [va_rf (some b), .int q0, .int q1] (r_X4_readBracket b q0 q1)) (this : Nat) (x1 : Int32) (y0 : Int32) (y1 : Option Nat) : Ok Γ mX4_readFactor (D + 1) (qo Γ vV) 83 [(0, va_rf (some this)), (1, .int x1)] [.int y0, va_rf y1] (F_X4_readFactor_L83 r_X4_readExpr r_X4_readCond r_X4_readSum r_X4_readPart r_X4_readFactor r_X4_readBracket this x1 y0 y1) := by
  unfold F_X4_readFactor_L83
  refine ok_iconst (v := (3 : Int32)) (dd TX4_readFactor_1 1 rfl) (by decide) ?_
  refine ok_callVV (cn := 4) [.int y0, .int (3 : Int32)] [] (fun b19 => C_X4_refuseIf Γ b19 y0 (3 : Int32)) rfl cy_X4_refuseIf ml_RX4_52 im_X4_refuseIf se_X4_refuseIf (by omega) (Nat.le_of_ble_eq_true rfl) rfl (dd TX4_readFactor_1 2 rfl) ?_
  refine ok_aload_n (dd TX4_readFactor_1 3 rfl) 0 rfl ?_
  refine ok_callVV (cn := 4) [] [] (fun b20 => C_X4_take Γ b20) rfl cy_X4_take ml_RX4_90 im_X4_take se_X4_take (by omega) (Nat.le_of_ble_eq_true rfl) rfl (dd TX4_readFactor_1 4 rfl) ?_
  refine ok_aload_n (dd TX4_readFactor_1 5 rfl) 0 rfl ?_
  refine ok_iload_n (dd TX4_readFactor_1 6 rfl) 1 rfl ?_
  refine ok_iconst (v := (1 : Int32)) (dd TX4_readFactor_1 7 rfl) (by decide) ?_
  refine ok_iadd (dd TX4_readFactor_1 8 rfl) ?_
  refine ok_callVV (cn := 4) [.int (x1 + (1 : Int32))] [] (fun b21 => hr_X4_readFactor b21 (x1 + (1 : Int32))) rfl cy_X4_readFactor ml_RX4_104 im_X4_readFactor se_X4_readFactor (Nat.le_refl _) (Nat.le_of_ble_eq_true rfl) rfl (dd TX4_readFactor_1 9 rfl) ?_
  refine ok_aload_n (dd TX4_readFactor_1 10 rfl) 0 rfl ?_
  refine ok_bipush (v := (-7 : Int32)) (dd TX4_readFactor_1 11 rfl) (by decide) ?_
  refine ok_callVV (cn := 4) [.int (-7 : Int32)] [] (fun b22 => C_X4_emit Γ b22 (-7 : Int32)) rfl cy_X4_emit ml_RX4_95 im_X4_emit se_X4_emit (by omega) (Nat.le_of_ble_eq_true rfl) rfl (dd TX4_readFactor_1 12 rfl) ?_
  refine ok_goto (tgt := 192) (dd TX4_readFactor_1 13 rfl) (by decide) ?_
  exact ok_return (dd TX4_readFactor_2 19 rfl) rfl
def F_X4_readFactor_L62 (r_X4_readExpr : Nat → Int32 → M Unit) (r_X4_readCond : Nat → Int32 → M Unit) (r_X4_readSum : Nat → Int32 → M Unit) (r_X4_readPart : Nat → Int32 → M Unit) (r_X4_readFactor : Nat → Int32 → M Unit) (r_X4_readBracket : Nat → Int32 → Int32 → M Unit) (this : Nat) (x1 : Int32) : M Unit := bn (gI 4 6 (some this)) fun v10 => if ¬ v10 = (45 : Int32) then bn (gI 4 6 (some this)) fun v11 => if ¬ v11 = (40 : Int32) then bn (gI 4 6 (some this)) fun v12 => if v12 = (14 : Int32) then F_X4_readFactor_L143 r_X4_readExpr r_X4_readCond r_X4_readSum r_X4_readPart r_X4_readFactor r_X4_readBracket this x1 else bn (gI 4 6 (some this)) fun v13 => if ¬ v13 = (15 : Int32) then bn (pRc 4 (some this)) fun b14 => bn (F_X4_refuseIf b14 (1 : Int32) (2 : Int32)) fun _ => rt () else F_X4_readFactor_L143 r_X4_readExpr r_X4_readCond r_X4_readSum r_X4_readPart r_X4_readFactor r_X4_readBracket this x1 else bn (pRc 4 (some this)) fun b15 => bn (r_X4_readBracket b15 x1 (0 : Int32)) fun _ => rt () else if x1 < (12 : Int32) then F_X4_readFactor_L83 r_X4_readExpr r_X4_readCond r_X4_readSum r_X4_readPart r_X4_readFactor r_X4_readBracket this x1 (0 : Int32) (some this) else F_X4_readFactor_L83 r_X4_readExpr r_X4_readCond r_X4_readSum r_X4_readPart r_X4_readFactor r_X4_readBracket this x1 (1 : Int32) (some this)
set_option maxRecDepth 100000 in
theorem O_X4_readFactor_L62 (Γ : Gam) (D : Nat) (hB : 6 ≤ D) (r_X4_readExpr : Nat → Int32 → M Unit) (hr_X4_readExpr : ∀ (b : Nat) (q0 : Int32), Ct Γ mX4_readExpr D vV [va_rf (some b), .int q0] (r_X4_readExpr b q0)) (r_X4_readCond : Nat → Int32 → M Unit) (hr_X4_readCond : ∀ (b : Nat) (q0 : Int32), Ct Γ mX4_readCond D vV [va_rf (some b), .int q0] (r_X4_readCond b q0)) (r_X4_readSum : Nat → Int32 → M Unit) (hr_X4_readSum : ∀ (b : Nat) (q0 : Int32), Ct Γ mX4_readSum D vV [va_rf (some b), .int q0] (r_X4_readSum b q0)) (r_X4_readPart : Nat → Int32 → M Unit) (hr_X4_readPart : ∀ (b : Nat) (q0 : Int32), Ct Γ mX4_readPart D vV [va_rf (some b), .int q0] (r_X4_readPart b q0)) (r_X4_readFactor : Nat → Int32 → M Unit) (hr_X4_readFactor : ∀ (b : Nat) (q0 : Int32), Ct Γ mX4_readFactor D vV [va_rf (some b), .int q0] (r_X4_readFactor b q0)) (r_X4_readBracket : Nat → Int32 → Int32 → M Unit) (hr_X4_readBracket : ∀ (b : Nat) (q0 : Int32) (q1 : Int32), Ct Γ mX4_readBracket D vV [va_rf (some b), .int q0, .int q1] (r_X4_readBracket b q0 q1)) (this : Nat) (x1 : Int32) : Ok Γ mX4_readFactor (D + 1) (qo Γ vV) 62 [(0, va_rf (some this)), (1, .int x1)] [] (F_X4_readFactor_L62 r_X4_readExpr r_X4_readCond r_X4_readSum r_X4_readPart r_X4_readFactor r_X4_readBracket this x1) := by
  unfold F_X4_readFactor_L62
  refine ok_aload_n (dd TX4_readFactor_0 30 rfl) 0 rfl ?_
  refine ok_gI fl_RX4_38 rfl (dd TX4_readFactor_0 31 rfl) (fun v10 => ?_)
  refine ok_bipush (v := (45 : Int32)) (dd TX4_readFactor_0 32 rfl) (by decide) ?_
  refine ok_icmp_ne (tgt := 107) (dd TX4_readFactor_0 33 rfl) (by decide) ?_ ?_
  · refine ok_aload_n (dd TX4_readFactor_1 14 rfl) 0 rfl ?_
    refine ok_gI fl_RX4_38 rfl (dd TX4_readFactor_1 15 rfl) (fun v11 => ?_)
    refine ok_bipush (v := (40 : Int32)) (dd TX4_readFactor_1 16 rfl) (by decide) ?_
    refine ok_icmp_ne (tgt := 125) (dd TX4_readFactor_1 17 rfl) (by decide) ?_ ?_
    · refine ok_aload_n (dd TX4_readFactor_1 23 rfl) 0 rfl ?_
      refine ok_gI fl_RX4_38 rfl (dd TX4_readFactor_1 24 rfl) (fun v12 => ?_)
      refine ok_bipush (v := (14 : Int32)) (dd TX4_readFactor_1 25 rfl) (by decide) ?_
      refine ok_icmp_eq (tgt := 143) (dd TX4_readFactor_1 26 rfl) (by decide) ?_ ?_
      · exact O_X4_readFactor_L143 Γ D hB r_X4_readExpr hr_X4_readExpr r_X4_readCond hr_X4_readCond r_X4_readSum hr_X4_readSum r_X4_readPart hr_X4_readPart r_X4_readFactor hr_X4_readFactor r_X4_readBracket hr_X4_readBracket this x1
      · refine ok_aload_n (dd TX4_readFactor_1 27 rfl) 0 rfl ?_
        refine ok_gI fl_RX4_38 rfl (dd TX4_readFactor_1 28 rfl) (fun v13 => ?_)
        refine ok_bipush (v := (15 : Int32)) (dd TX4_readFactor_1 29 rfl) (by decide) ?_
        refine ok_icmp_ne (tgt := 186) (dd TX4_readFactor_1 30 rfl) (by decide) ?_ ?_
        · refine ok_aload_n (dd TX4_readFactor_2 15 rfl) 0 rfl ?_
          refine ok_iconst (v := (1 : Int32)) (dd TX4_readFactor_2 16 rfl) (by decide) ?_
          refine ok_iconst (v := (2 : Int32)) (dd TX4_readFactor_2 17 rfl) (by decide) ?_
          refine ok_callVV (cn := 4) [.int (1 : Int32), .int (2 : Int32)] [] (fun b14 => C_X4_refuseIf Γ b14 (1 : Int32) (2 : Int32)) rfl cy_X4_refuseIf ml_RX4_52 im_X4_refuseIf se_X4_refuseIf (by omega) (Nat.le_of_ble_eq_true rfl) rfl (dd TX4_readFactor_2 18 rfl) ?_
          exact ok_return (dd TX4_readFactor_2 19 rfl) rfl
        · exact O_X4_readFactor_L143 Γ D hB r_X4_readExpr hr_X4_readExpr r_X4_readCond hr_X4_readCond r_X4_readSum hr_X4_readSum r_X4_readPart hr_X4_readPart r_X4_readFactor hr_X4_readFactor r_X4_readBracket hr_X4_readBracket this x1
    · refine ok_aload_n (dd TX4_readFactor_1 18 rfl) 0 rfl ?_
      refine ok_iload_n (dd TX4_readFactor_1 19 rfl) 1 rfl ?_
      refine ok_iconst (v := (0 : Int32)) (dd TX4_readFactor_1 20 rfl) (by decide) ?_
      refine ok_callVV (cn := 4) [.int x1, .int (0 : Int32)] [] (fun b15 => hr_X4_readBracket b15 x1 (0 : Int32)) rfl cy_X4_readBracket ml_RX4_107 im_X4_readBracket se_X4_readBracket (Nat.le_refl _) (Nat.le_of_ble_eq_true rfl) rfl (dd TX4_readFactor_1 21 rfl) ?_
      refine ok_goto (tgt := 192) (dd TX4_readFactor_1 22 rfl) (by decide) ?_
      exact ok_return (dd TX4_readFactor_2 19 rfl) rfl
  · refine ok_aload_n (dd TX4_readFactor_0 34 rfl) 0 rfl ?_
    refine ok_iload_n (dd TX4_readFactor_0 35 rfl) 1 rfl ?_
    refine ok_bipush (v := (12 : Int32)) (dd TX4_readFactor_0 36 rfl) (by decide) ?_
    refine ok_icmp_lt (tgt := 82) (dd TX4_readFactor_0 37 rfl) (by decide) ?_ ?_
    · refine ok_iconst (v := (0 : Int32)) (dd TX4_readFactor_1 0 rfl) (by decide) ?_
      exact O_X4_readFactor_L83 Γ D hB r_X4_readExpr hr_X4_readExpr r_X4_readCond hr_X4_readCond r_X4_readSum hr_X4_readSum r_X4_readPart hr_X4_readPart r_X4_readFactor hr_X4_readFactor r_X4_readBracket hr_X4_readBracket this x1 (0 : Int32) (some this)
    · refine ok_iconst (v := (1 : Int32)) (dd TX4_readFactor_0 38 rfl) (by decide) ?_
      refine ok_goto (tgt := 83) (dd TX4_readFactor_0 39 rfl) (by decide) ?_
      exact O_X4_readFactor_L83 Γ D hB r_X4_readExpr hr_X4_readExpr r_X4_readCond hr_X4_readCond r_X4_readSum hr_X4_readSum r_X4_readPart hr_X4_readPart r_X4_readFactor hr_X4_readFactor r_X4_readBracket hr_X4_readBracket this x1 (1 : Int32) (some this)
def F_X4_readFactor_B (r_X4_readExpr : Nat → Int32 → M Unit) (r_X4_readCond : Nat → Int32 → M Unit) (r_X4_readSum : Nat → Int32 → M Unit) (r_X4_readPart : Nat → Int32 → M Unit) (r_X4_readFactor : Nat → Int32 → M Unit) (r_X4_readBracket : Nat → Int32 → Int32 → M Unit) (this : Nat) (p0 : Int32) : M Unit := bn (gI 4 6 (some this)) fun v1 => if ¬ v1 = (16 : Int32) then bn (gI 4 6 (some this)) fun v2 => if v2 < (6 : Int32) then F_X4_readFactor_L62 r_X4_readExpr r_X4_readCond r_X4_readSum r_X4_readPart r_X4_readFactor r_X4_readBracket this p0 else bn (gI 4 6 (some this)) fun v3 => if (12 : Int32) ≤ v3 then F_X4_readFactor_L62 r_X4_readExpr r_X4_readCond r_X4_readSum r_X4_readPart r_X4_readFactor r_X4_readBracket this p0 else bn (gI 4 6 (some this)) fun v4 => bn (pRc 4 (some this)) fun b5 => bn (F_X4_emit b5 ((-1 : Int32) - (v4 - (6 : Int32)))) fun _ => bn (pRc 4 (some this)) fun b6 => bn (F_X4_take b6) fun _ => rt () else bn (gI 4 7 (some this)) fun v7 => bn (pRc 4 (some this)) fun b8 => bn (F_X4_emit b8 v7) fun _ => bn (pRc 4 (some this)) fun b9 => bn (F_X4_take b9) fun _ => rt ()
set_option maxRecDepth 100000 in
theorem C_X4_readFactor_B (Γ : Gam) (D : Nat) (hB : 6 ≤ D) (r_X4_readExpr : Nat → Int32 → M Unit) (hr_X4_readExpr : ∀ (b : Nat) (q0 : Int32), Ct Γ mX4_readExpr D vV [va_rf (some b), .int q0] (r_X4_readExpr b q0)) (r_X4_readCond : Nat → Int32 → M Unit) (hr_X4_readCond : ∀ (b : Nat) (q0 : Int32), Ct Γ mX4_readCond D vV [va_rf (some b), .int q0] (r_X4_readCond b q0)) (r_X4_readSum : Nat → Int32 → M Unit) (hr_X4_readSum : ∀ (b : Nat) (q0 : Int32), Ct Γ mX4_readSum D vV [va_rf (some b), .int q0] (r_X4_readSum b q0)) (r_X4_readPart : Nat → Int32 → M Unit) (hr_X4_readPart : ∀ (b : Nat) (q0 : Int32), Ct Γ mX4_readPart D vV [va_rf (some b), .int q0] (r_X4_readPart b q0)) (r_X4_readFactor : Nat → Int32 → M Unit) (hr_X4_readFactor : ∀ (b : Nat) (q0 : Int32), Ct Γ mX4_readFactor D vV [va_rf (some b), .int q0] (r_X4_readFactor b q0)) (r_X4_readBracket : Nat → Int32 → Int32 → M Unit) (hr_X4_readBracket : ∀ (b : Nat) (q0 : Int32) (q1 : Int32), Ct Γ mX4_readBracket D vV [va_rf (some b), .int q0, .int q1] (r_X4_readBracket b q0 q1)) (this : Nat) (p0 : Int32) : Ct Γ mX4_readFactor (D + 1) vV [va_rf (some this), .int p0] (F_X4_readFactor_B r_X4_readExpr r_X4_readCond r_X4_readSum r_X4_readPart r_X4_readFactor r_X4_readBracket this p0) := by
  refine ct_in (lv := [(0, va_rf (some this)), (1, .int p0)]) (by decide) (by first | rfl | (simp only [lv_args, cat_rf]; rfl)) (by first | exact Nat.le_of_ble_eq_true rfl | (rw [lg_len]; simp only [List.map_cons, List.map_nil, cat_rf]; exact Nat.le_of_ble_eq_true rfl)) ?_
  unfold F_X4_readFactor_B
  refine ok_aload_n (dd TX4_readFactor_0 0 rfl) 0 rfl ?_
  refine ok_gI fl_RX4_38 rfl (dd TX4_readFactor_0 1 rfl) (fun v1 => ?_)
  refine ok_bipush (v := (16 : Int32)) (dd TX4_readFactor_0 2 rfl) (by decide) ?_
  refine ok_icmp_ne (tgt := 24) (dd TX4_readFactor_0 3 rfl) (by decide) ?_ ?_
  · refine ok_aload_n (dd TX4_readFactor_0 11 rfl) 0 rfl ?_
    refine ok_gI fl_RX4_38 rfl (dd TX4_readFactor_0 12 rfl) (fun v2 => ?_)
    refine ok_bipush (v := (6 : Int32)) (dd TX4_readFactor_0 13 rfl) (by decide) ?_
    refine ok_icmp_lt (tgt := 62) (dd TX4_readFactor_0 14 rfl) (by decide) ?_ ?_
    · exact O_X4_readFactor_L62 Γ D hB r_X4_readExpr hr_X4_readExpr r_X4_readCond hr_X4_readCond r_X4_readSum hr_X4_readSum r_X4_readPart hr_X4_readPart r_X4_readFactor hr_X4_readFactor r_X4_readBracket hr_X4_readBracket this p0
    · refine ok_aload_n (dd TX4_readFactor_0 15 rfl) 0 rfl ?_
      refine ok_gI fl_RX4_38 rfl (dd TX4_readFactor_0 16 rfl) (fun v3 => ?_)
      refine ok_bipush (v := (12 : Int32)) (dd TX4_readFactor_0 17 rfl) (by decide) ?_
      refine ok_icmp_ge (tgt := 62) (dd TX4_readFactor_0 18 rfl) (by decide) ?_ ?_
      · exact O_X4_readFactor_L62 Γ D hB r_X4_readExpr hr_X4_readExpr r_X4_readCond hr_X4_readCond r_X4_readSum hr_X4_readSum r_X4_readPart hr_X4_readPart r_X4_readFactor hr_X4_readFactor r_X4_readBracket hr_X4_readBracket this p0
      · refine ok_aload_n (dd TX4_readFactor_0 19 rfl) 0 rfl ?_
        refine ok_iconst (v := (-1 : Int32)) (dd TX4_readFactor_0 20 rfl) (by decide) ?_
        refine ok_aload_n (dd TX4_readFactor_0 21 rfl) 0 rfl ?_
        refine ok_gI fl_RX4_38 rfl (dd TX4_readFactor_0 22 rfl) (fun v4 => ?_)
        refine ok_bipush (v := (6 : Int32)) (dd TX4_readFactor_0 23 rfl) (by decide) ?_
        refine ok_isub (dd TX4_readFactor_0 24 rfl) ?_
        refine ok_isub (dd TX4_readFactor_0 25 rfl) ?_
        refine ok_callVV (cn := 4) [.int ((-1 : Int32) - (v4 - (6 : Int32)))] [] (fun b5 => C_X4_emit Γ b5 ((-1 : Int32) - (v4 - (6 : Int32)))) rfl cy_X4_emit ml_RX4_95 im_X4_emit se_X4_emit (by omega) (Nat.le_of_ble_eq_true rfl) rfl (dd TX4_readFactor_0 26 rfl) ?_
        refine ok_aload_n (dd TX4_readFactor_0 27 rfl) 0 rfl ?_
        refine ok_callVV (cn := 4) [] [] (fun b6 => C_X4_take Γ b6) rfl cy_X4_take ml_RX4_90 im_X4_take se_X4_take (by omega) (Nat.le_of_ble_eq_true rfl) rfl (dd TX4_readFactor_0 28 rfl) ?_
        refine ok_goto (tgt := 192) (dd TX4_readFactor_0 29 rfl) (by decide) ?_
        exact ok_return (dd TX4_readFactor_2 19 rfl) rfl
  · refine ok_aload_n (dd TX4_readFactor_0 4 rfl) 0 rfl ?_
    refine ok_aload_n (dd TX4_readFactor_0 5 rfl) 0 rfl ?_
    refine ok_gI fl_RX4_60 rfl (dd TX4_readFactor_0 6 rfl) (fun v7 => ?_)
    refine ok_callVV (cn := 4) [.int v7] [] (fun b8 => C_X4_emit Γ b8 v7) rfl cy_X4_emit ml_RX4_95 im_X4_emit se_X4_emit (by omega) (Nat.le_of_ble_eq_true rfl) rfl (dd TX4_readFactor_0 7 rfl) ?_
    refine ok_aload_n (dd TX4_readFactor_0 8 rfl) 0 rfl ?_
    refine ok_callVV (cn := 4) [] [] (fun b9 => C_X4_take Γ b9) rfl cy_X4_take ml_RX4_90 im_X4_take se_X4_take (by omega) (Nat.le_of_ble_eq_true rfl) rfl (dd TX4_readFactor_0 9 rfl) ?_
    refine ok_goto (tgt := 192) (dd TX4_readFactor_0 10 rfl) (by decide) ?_
    exact ok_return (dd TX4_readFactor_2 19 rfl) rfl
def F_X4_readBracket_L76 (r_X4_readExpr : Nat → Int32 → M Unit) (r_X4_readCond : Nat → Int32 → M Unit) (r_X4_readSum : Nat → Int32 → M Unit) (r_X4_readPart : Nat → Int32 → M Unit) (r_X4_readFactor : Nat → Int32 → M Unit) (r_X4_readBracket : Nat → Int32 → Int32 → M Unit) (this : Nat) (y0 : Int32) (y1 : Option Nat) : M Unit := bn (pRc 4 y1) fun b9 => bn (F_X4_refuseIf b9 y0 (2 : Int32)) fun _ => bn (pRc 4 (some this)) fun b10 => bn (F_X4_take b10) fun _ => rt ()
set_option maxRecDepth 100000 in
theorem O_X4_readBracket_L76 (Γ : Gam) (D : Nat) (hB : 6 ≤ D) (r_X4_readExpr : Nat → Int32 → M Unit) (hr_X4_readExpr : ∀ (b : Nat) (q0 : Int32), Ct Γ mX4_readExpr D vV [va_rf (some b), .int q0] (r_X4_readExpr b q0)) (r_X4_readCond : Nat → Int32 → M Unit) (hr_X4_readCond : ∀ (b : Nat) (q0 : Int32), Ct Γ mX4_readCond D vV [va_rf (some b), .int q0] (r_X4_readCond b q0)) (r_X4_readSum : Nat → Int32 → M Unit) (hr_X4_readSum : ∀ (b : Nat) (q0 : Int32), Ct Γ mX4_readSum D vV [va_rf (some b), .int q0] (r_X4_readSum b q0)) (r_X4_readPart : Nat → Int32 → M Unit) (hr_X4_readPart : ∀ (b : Nat) (q0 : Int32), Ct Γ mX4_readPart D vV [va_rf (some b), .int q0] (r_X4_readPart b q0)) (r_X4_readFactor : Nat → Int32 → M Unit) (hr_X4_readFactor : ∀ (b : Nat) (q0 : Int32), Ct Γ mX4_readFactor D vV [va_rf (some b), .int q0] (r_X4_readFactor b q0)) (r_X4_readBracket : Nat → Int32 → Int32 → M Unit) (hr_X4_readBracket : ∀ (b : Nat) (q0 : Int32) (q1 : Int32), Ct Γ mX4_readBracket D vV [va_rf (some b), .int q0, .int q1] (r_X4_readBracket b q0 q1)) (this : Nat) (y0 : Int32) (y1 : Option Nat) : Ok Γ mX4_readBracket (D + 1) (qo Γ vV) 76 [(0, va_rf (some this))] [.int y0, va_rf y1] (F_X4_readBracket_L76 r_X4_readExpr r_X4_readCond r_X4_readSum r_X4_readPart r_X4_readFactor r_X4_readBracket this y0 y1) := by
  unfold F_X4_readBracket_L76
  refine ok_iconst (v := (2 : Int32)) (dd TX4_readBracket_1 3 rfl) (by decide) ?_
  refine ok_callVV (cn := 4) [.int y0, .int (2 : Int32)] [] (fun b9 => C_X4_refuseIf Γ b9 y0 (2 : Int32)) rfl cy_X4_refuseIf ml_RX4_52 im_X4_refuseIf se_X4_refuseIf (by omega) (Nat.le_of_ble_eq_true rfl) rfl (dd TX4_readBracket_1 4 rfl) ?_
  refine ok_aload_n (dd TX4_readBracket_1 5 rfl) 0 rfl ?_
  refine ok_callVV (cn := 4) [] [] (fun b10 => C_X4_take Γ b10) rfl cy_X4_take ml_RX4_90 im_X4_take se_X4_take (by omega) (Nat.le_of_ble_eq_true rfl) rfl (dd TX4_readBracket_1 6 rfl) ?_
  exact ok_return (dd TX4_readBracket_1 7 rfl) rfl
def F_X4_readBracket_L61 (r_X4_readExpr : Nat → Int32 → M Unit) (r_X4_readCond : Nat → Int32 → M Unit) (r_X4_readSum : Nat → Int32 → M Unit) (r_X4_readPart : Nat → Int32 → M Unit) (r_X4_readFactor : Nat → Int32 → M Unit) (r_X4_readBracket : Nat → Int32 → Int32 → M Unit) (this : Nat) : M Unit := bn (gI 4 6 (some this)) fun v5 => if v5 = (41 : Int32) then F_X4_readBracket_L76 r_X4_readExpr r_X4_readCond r_X4_readSum r_X4_readPart r_X4_readFactor r_X4_readBracket this (0 : Int32) (some this) else F_X4_readBracket_L76 r_X4_readExpr r_X4_readCond r_X4_readSum r_X4_readPart r_X4_readFactor r_X4_readBracket this (1 : Int32) (some this)
set_option maxRecDepth 100000 in
theorem O_X4_readBracket_L61 (Γ : Gam) (D : Nat) (hB : 6 ≤ D) (r_X4_readExpr : Nat → Int32 → M Unit) (hr_X4_readExpr : ∀ (b : Nat) (q0 : Int32), Ct Γ mX4_readExpr D vV [va_rf (some b), .int q0] (r_X4_readExpr b q0)) (r_X4_readCond : Nat → Int32 → M Unit) (hr_X4_readCond : ∀ (b : Nat) (q0 : Int32), Ct Γ mX4_readCond D vV [va_rf (some b), .int q0] (r_X4_readCond b q0)) (r_X4_readSum : Nat → Int32 → M Unit) (hr_X4_readSum : ∀ (b : Nat) (q0 : Int32), Ct Γ mX4_readSum D vV [va_rf (some b), .int q0] (r_X4_readSum b q0)) (r_X4_readPart : Nat → Int32 → M Unit) (hr_X4_readPart : ∀ (b : Nat) (q0 : Int32), Ct Γ mX4_readPart D vV [va_rf (some b), .int q0] (r_X4_readPart b q0)) (r_X4_readFactor : Nat → Int32 → M Unit) (hr_X4_readFactor : ∀ (b : Nat) (q0 : Int32), Ct Γ mX4_readFactor D vV [va_rf (some b), .int q0] (r_X4_readFactor b q0)) (r_X4_readBracket : Nat → Int32 → Int32 → M Unit) (hr_X4_readBracket : ∀ (b : Nat) (q0 : Int32) (q1 : Int32), Ct Γ mX4_readBracket D vV [va_rf (some b), .int q0, .int q1] (r_X4_readBracket b q0 q1)) (this : Nat) : Ok Γ mX4_readBracket (D + 1) (qo Γ vV) 61 [(0, va_rf (some this))] [] (F_X4_readBracket_L61 r_X4_readExpr r_X4_readCond r_X4_readSum r_X4_readPart r_X4_readFactor r_X4_readBracket this) := by
  unfold F_X4_readBracket_L61
  refine ok_aload_n (dd TX4_readBracket_0 35 rfl) 0 rfl ?_
  refine ok_aload_n (dd TX4_readBracket_0 36 rfl) 0 rfl ?_
  refine ok_gI fl_RX4_38 rfl (dd TX4_readBracket_0 37 rfl) (fun v5 => ?_)
  refine ok_bipush (v := (41 : Int32)) (dd TX4_readBracket_0 38 rfl) (by decide) ?_
  refine ok_icmp_eq (tgt := 75) (dd TX4_readBracket_0 39 rfl) (by decide) ?_ ?_
  · refine ok_iconst (v := (0 : Int32)) (dd TX4_readBracket_1 2 rfl) (by decide) ?_
    exact O_X4_readBracket_L76 Γ D hB r_X4_readExpr hr_X4_readExpr r_X4_readCond hr_X4_readCond r_X4_readSum hr_X4_readSum r_X4_readPart hr_X4_readPart r_X4_readFactor hr_X4_readFactor r_X4_readBracket hr_X4_readBracket this (0 : Int32) (some this)
  · refine ok_iconst (v := (1 : Int32)) (dd TX4_readBracket_1 0 rfl) (by decide) ?_
    refine ok_goto (tgt := 76) (dd TX4_readBracket_1 1 rfl) (by decide) ?_
    exact O_X4_readBracket_L76 Γ D hB r_X4_readExpr hr_X4_readExpr r_X4_readCond hr_X4_readCond r_X4_readSum hr_X4_readSum r_X4_readPart hr_X4_readPart r_X4_readFactor hr_X4_readFactor r_X4_readBracket hr_X4_readBracket this (1 : Int32) (some this)
def F_X4_readBracket_L46 (r_X4_readExpr : Nat → Int32 → M Unit) (r_X4_readCond : Nat → Int32 → M Unit) (r_X4_readSum : Nat → Int32 → M Unit) (r_X4_readPart : Nat → Int32 → M Unit) (r_X4_readFactor : Nat → Int32 → M Unit) (r_X4_readBracket : Nat → Int32 → Int32 → M Unit) (this : Nat) (x1 : Int32) (y0 : Int32) (y1 : Option Nat) : M Unit := bn (pRc 4 y1) fun b6 => bn (F_X4_refuseIf b6 y0 (2 : Int32)) fun _ => bn (pRc 4 (some this)) fun b7 => bn (F_X4_take b7) fun _ => bn (pRc 4 (some this)) fun b8 => bn (r_X4_readExpr b8 (x1 + (1 : Int32))) fun _ => F_X4_readBracket_L61 r_X4_readExpr r_X4_readCond r_X4_readSum r_X4_readPart r_X4_readFactor r_X4_readBracket this
set_option maxRecDepth 100000 in
theorem O_X4_readBracket_L46 (Γ : Gam) (D : Nat) (hB : 6 ≤ D) (r_X4_readExpr : Nat → Int32 → M Unit) (hr_X4_readExpr : ∀ (b : Nat) (q0 : Int32), Ct Γ mX4_readExpr D vV [va_rf (some b), .int q0] (r_X4_readExpr b q0)) (r_X4_readCond : Nat → Int32 → M Unit) (hr_X4_readCond : ∀ (b : Nat) (q0 : Int32), Ct Γ mX4_readCond D vV [va_rf (some b), .int q0] (r_X4_readCond b q0)) (r_X4_readSum : Nat → Int32 → M Unit) (hr_X4_readSum : ∀ (b : Nat) (q0 : Int32), Ct Γ mX4_readSum D vV [va_rf (some b), .int q0] (r_X4_readSum b q0)) (r_X4_readPart : Nat → Int32 → M Unit) (hr_X4_readPart : ∀ (b : Nat) (q0 : Int32), Ct Γ mX4_readPart D vV [va_rf (some b), .int q0] (r_X4_readPart b q0)) (r_X4_readFactor : Nat → Int32 → M Unit) (hr_X4_readFactor : ∀ (b : Nat) (q0 : Int32), Ct Γ mX4_readFactor D vV [va_rf (some b), .int q0] (r_X4_readFactor b q0)) (r_X4_readBracket : Nat → Int32 → Int32 → M Unit) (hr_X4_readBracket : ∀ (b : Nat) (q0 : Int32) (q1 : Int32), Ct Γ mX4_readBracket D vV [va_rf (some b), .int q0, .int q1] (r_X4_readBracket b q0 q1)) (this : Nat) (x1 : Int32) (y0 : Int32) (y1 : Option Nat) : Ok Γ mX4_readBracket (D + 1) (qo Γ vV) 46 [(0, va_rf (some this)), (1, .int x1)] [.int y0, va_rf y1] (F_X4_readBracket_L46 r_X4_readExpr r_X4_readCond r_X4_readSum r_X4_readPart r_X4_readFactor r_X4_readBracket this x1 y0 y1) := by
  unfold F_X4_readBracket_L46
  refine ok_iconst (v := (2 : Int32)) (dd TX4_readBracket_0 26 rfl) (by decide) ?_
  refine ok_callVV (cn := 4) [.int y0, .int (2 : Int32)] [] (fun b6 => C_X4_refuseIf Γ b6 y0 (2 : Int32)) rfl cy_X4_refuseIf ml_RX4_52 im_X4_refuseIf se_X4_refuseIf (by omega) (Nat.le_of_ble_eq_true rfl) rfl (dd TX4_readBracket_0 27 rfl) ?_
  refine ok_aload_n (dd TX4_readBracket_0 28 rfl) 0 rfl ?_
  refine ok_callVV (cn := 4) [] [] (fun b7 => C_X4_take Γ b7) rfl cy_X4_take ml_RX4_90 im_X4_take se_X4_take (by omega) (Nat.le_of_ble_eq_true rfl) rfl (dd TX4_readBracket_0 29 rfl) ?_
  refine ok_aload_n (dd TX4_readBracket_0 30 rfl) 0 rfl ?_
  refine ok_iload_n (dd TX4_readBracket_0 31 rfl) 1 rfl ?_
  refine ok_iconst (v := (1 : Int32)) (dd TX4_readBracket_0 32 rfl) (by decide) ?_
  refine ok_iadd (dd TX4_readBracket_0 33 rfl) ?_
  refine ok_callVV (cn := 4) [.int (x1 + (1 : Int32))] [] (fun b8 => hr_X4_readExpr b8 (x1 + (1 : Int32))) rfl cy_X4_readExpr ml_RX4_69 im_X4_readExpr se_X4_readExpr (Nat.le_refl _) (Nat.le_of_ble_eq_true rfl) rfl (dd TX4_readBracket_0 34 rfl) ?_
  refine ok_sub [0] rfl ?_
  exact O_X4_readBracket_L61 Γ D hB r_X4_readExpr hr_X4_readExpr r_X4_readCond hr_X4_readCond r_X4_readSum hr_X4_readSum r_X4_readPart hr_X4_readPart r_X4_readFactor hr_X4_readFactor r_X4_readBracket hr_X4_readBracket this
def F_X4_readBracket_L12 (r_X4_readExpr : Nat → Int32 → M Unit) (r_X4_readCond : Nat → Int32 → M Unit) (r_X4_readSum : Nat → Int32 → M Unit) (r_X4_readPart : Nat → Int32 → M Unit) (r_X4_readFactor : Nat → Int32 → M Unit) (r_X4_readBracket : Nat → Int32 → Int32 → M Unit) (this : Nat) (x1 : Int32) (x2 : Int32) (y0 : Int32) (y1 : Option Nat) : M Unit := bn (pRc 4 y1) fun b1 => bn (F_X4_refuseIf b1 y0 (3 : Int32)) fun _ => bn (pRc 4 (some this)) fun b2 => bn (F_X4_take b2) fun _ => bn (pRc 4 (some this)) fun b3 => bn (r_X4_readExpr b3 (x1 + (1 : Int32))) fun _ => if x2 = 0 then F_X4_readBracket_L61 r_X4_readExpr r_X4_readCond r_X4_readSum r_X4_readPart r_X4_readFactor r_X4_readBracket this else bn (gI 4 6 (some this)) fun v4 => if v4 = (44 : Int32) then F_X4_readBracket_L46 r_X4_readExpr r_X4_readCond r_X4_readSum r_X4_readPart r_X4_readFactor r_X4_readBracket this x1 (0 : Int32) (some this) else F_X4_readBracket_L46 r_X4_readExpr r_X4_readCond r_X4_readSum r_X4_readPart r_X4_readFactor r_X4_readBracket this x1 (1 : Int32) (some this)
set_option maxRecDepth 100000 in
theorem O_X4_readBracket_L12 (Γ : Gam) (D : Nat) (hB : 6 ≤ D) (r_X4_readExpr : Nat → Int32 → M Unit) (hr_X4_readExpr : ∀ (b : Nat) (q0 : Int32), Ct Γ mX4_readExpr D vV [va_rf (some b), .int q0] (r_X4_readExpr b q0)) (r_X4_readCond : Nat → Int32 → M Unit) (hr_X4_readCond : ∀ (b : Nat) (q0 : Int32), Ct Γ mX4_readCond D vV [va_rf (some b), .int q0] (r_X4_readCond b q0)) (r_X4_readSum : Nat → Int32 → M Unit) (hr_X4_readSum : ∀ (b : Nat) (q0 : Int32), Ct Γ mX4_readSum D vV [va_rf (some b), .int q0] (r_X4_readSum b q0)) (r_X4_readPart : Nat → Int32 → M Unit) (hr_X4_readPart : ∀ (b : Nat) (q0 : Int32), Ct Γ mX4_readPart D vV [va_rf (some b), .int q0] (r_X4_readPart b q0)) (r_X4_readFactor : Nat → Int32 → M Unit) (hr_X4_readFactor : ∀ (b : Nat) (q0 : Int32), Ct Γ mX4_readFactor D vV [va_rf (some b), .int q0] (r_X4_readFactor b q0)) (r_X4_readBracket : Nat → Int32 → Int32 → M Unit) (hr_X4_readBracket : ∀ (b : Nat) (q0 : Int32) (q1 : Int32), Ct Γ mX4_readBracket D vV [va_rf (some b), .int q0, .int q1] (r_X4_readBracket b q0 q1)) (this : Nat) (x1 : Int32) (x2 : Int32) (y0 : Int32) (y1 : Option Nat) : Ok Γ mX4_readBracket (D + 1) (qo Γ vV) 12 [(0, va_rf (some this)), (1, .int x1), (2, .int x2)] [.int y0, va_rf y1] (F_X4_readBracket_L12 r_X4_readExpr r_X4_readCond r_X4_readSum r_X4_readPart r_X4_readFactor r_X4_readBracket this x1 x2 y0 y1) := by
  unfold F_X4_readBracket_L12
  refine ok_iconst (v := (3 : Int32)) (dd TX4_readBracket_0 7 rfl) (by decide) ?_
  refine ok_callVV (cn := 4) [.int y0, .int (3 : Int32)] [] (fun b1 => C_X4_refuseIf Γ b1 y0 (3 : Int32)) rfl cy_X4_refuseIf ml_RX4_52 im_X4_refuseIf se_X4_refuseIf (by omega) (Nat.le_of_ble_eq_true rfl) rfl (dd TX4_readBracket_0 8 rfl) ?_
  refine ok_aload_n (dd TX4_readBracket_0 9 rfl) 0 rfl ?_
  refine ok_callVV (cn := 4) [] [] (fun b2 => C_X4_take Γ b2) rfl cy_X4_take ml_RX4_90 im_X4_take se_X4_take (by omega) (Nat.le_of_ble_eq_true rfl) rfl (dd TX4_readBracket_0 10 rfl) ?_
  refine ok_aload_n (dd TX4_readBracket_0 11 rfl) 0 rfl ?_
  refine ok_iload_n (dd TX4_readBracket_0 12 rfl) 1 rfl ?_
  refine ok_iconst (v := (1 : Int32)) (dd TX4_readBracket_0 13 rfl) (by decide) ?_
  refine ok_iadd (dd TX4_readBracket_0 14 rfl) ?_
  refine ok_callVV (cn := 4) [.int (x1 + (1 : Int32))] [] (fun b3 => hr_X4_readExpr b3 (x1 + (1 : Int32))) rfl cy_X4_readExpr ml_RX4_69 im_X4_readExpr se_X4_readExpr (Nat.le_refl _) (Nat.le_of_ble_eq_true rfl) rfl (dd TX4_readBracket_0 15 rfl) ?_
  refine ok_iload_n (dd TX4_readBracket_0 16 rfl) 2 rfl ?_
  refine ok_if_eq (tgt := 61) (dd TX4_readBracket_0 17 rfl) (by decide) ?_ ?_
  · refine ok_sub [0] rfl ?_
    exact O_X4_readBracket_L61 Γ D hB r_X4_readExpr hr_X4_readExpr r_X4_readCond hr_X4_readCond r_X4_readSum hr_X4_readSum r_X4_readPart hr_X4_readPart r_X4_readFactor hr_X4_readFactor r_X4_readBracket hr_X4_readBracket this
  · refine ok_aload_n (dd TX4_readBracket_0 18 rfl) 0 rfl ?_
    refine ok_aload_n (dd TX4_readBracket_0 19 rfl) 0 rfl ?_
    refine ok_gI fl_RX4_38 rfl (dd TX4_readBracket_0 20 rfl) (fun v4 => ?_)
    refine ok_bipush (v := (44 : Int32)) (dd TX4_readBracket_0 21 rfl) (by decide) ?_
    refine ok_icmp_eq (tgt := 45) (dd TX4_readBracket_0 22 rfl) (by decide) ?_ ?_
    · refine ok_iconst (v := (0 : Int32)) (dd TX4_readBracket_0 25 rfl) (by decide) ?_
      refine ok_sub [0, 1] rfl ?_
      exact O_X4_readBracket_L46 Γ D hB r_X4_readExpr hr_X4_readExpr r_X4_readCond hr_X4_readCond r_X4_readSum hr_X4_readSum r_X4_readPart hr_X4_readPart r_X4_readFactor hr_X4_readFactor r_X4_readBracket hr_X4_readBracket this x1 (0 : Int32) (some this)
    · refine ok_iconst (v := (1 : Int32)) (dd TX4_readBracket_0 23 rfl) (by decide) ?_
      refine ok_goto (tgt := 46) (dd TX4_readBracket_0 24 rfl) (by decide) ?_
      refine ok_sub [0, 1] rfl ?_
      exact O_X4_readBracket_L46 Γ D hB r_X4_readExpr hr_X4_readExpr r_X4_readCond hr_X4_readCond r_X4_readSum hr_X4_readSum r_X4_readPart hr_X4_readPart r_X4_readFactor hr_X4_readFactor r_X4_readBracket hr_X4_readBracket this x1 (1 : Int32) (some this)
def F_X4_readBracket_B (r_X4_readExpr : Nat → Int32 → M Unit) (r_X4_readCond : Nat → Int32 → M Unit) (r_X4_readSum : Nat → Int32 → M Unit) (r_X4_readPart : Nat → Int32 → M Unit) (r_X4_readFactor : Nat → Int32 → M Unit) (r_X4_readBracket : Nat → Int32 → Int32 → M Unit) (this : Nat) (p0 : Int32) (p1 : Int32) : M Unit := if p0 < (12 : Int32) then F_X4_readBracket_L12 r_X4_readExpr r_X4_readCond r_X4_readSum r_X4_readPart r_X4_readFactor r_X4_readBracket this p0 p1 (0 : Int32) (some this) else F_X4_readBracket_L12 r_X4_readExpr r_X4_readCond r_X4_readSum r_X4_readPart r_X4_readFactor r_X4_readBracket this p0 p1 (1 : Int32) (some this)
set_option maxRecDepth 100000 in
theorem C_X4_readBracket_B (Γ : Gam) (D : Nat) (hB : 6 ≤ D) (r_X4_readExpr : Nat → Int32 → M Unit) (hr_X4_readExpr : ∀ (b : Nat) (q0 : Int32), Ct Γ mX4_readExpr D vV [va_rf (some b), .int q0] (r_X4_readExpr b q0)) (r_X4_readCond : Nat → Int32 → M Unit) (hr_X4_readCond : ∀ (b : Nat) (q0 : Int32), Ct Γ mX4_readCond D vV [va_rf (some b), .int q0] (r_X4_readCond b q0)) (r_X4_readSum : Nat → Int32 → M Unit) (hr_X4_readSum : ∀ (b : Nat) (q0 : Int32), Ct Γ mX4_readSum D vV [va_rf (some b), .int q0] (r_X4_readSum b q0)) (r_X4_readPart : Nat → Int32 → M Unit) (hr_X4_readPart : ∀ (b : Nat) (q0 : Int32), Ct Γ mX4_readPart D vV [va_rf (some b), .int q0] (r_X4_readPart b q0)) (r_X4_readFactor : Nat → Int32 → M Unit) (hr_X4_readFactor : ∀ (b : Nat) (q0 : Int32), Ct Γ mX4_readFactor D vV [va_rf (some b), .int q0] (r_X4_readFactor b q0)) (r_X4_readBracket : Nat → Int32 → Int32 → M Unit) (hr_X4_readBracket : ∀ (b : Nat) (q0 : Int32) (q1 : Int32), Ct Γ mX4_readBracket D vV [va_rf (some b), .int q0, .int q1] (r_X4_readBracket b q0 q1)) (this : Nat) (p0 : Int32) (p1 : Int32) : Ct Γ mX4_readBracket (D + 1) vV [va_rf (some this), .int p0, .int p1] (F_X4_readBracket_B r_X4_readExpr r_X4_readCond r_X4_readSum r_X4_readPart r_X4_readFactor r_X4_readBracket this p0 p1) := by
  refine ct_in (lv := [(0, va_rf (some this)), (1, .int p0), (2, .int p1)]) (by decide) (by first | rfl | (simp only [lv_args, cat_rf]; rfl)) (by first | exact Nat.le_of_ble_eq_true rfl | (rw [lg_len]; simp only [List.map_cons, List.map_nil, cat_rf]; exact Nat.le_of_ble_eq_true rfl)) ?_
  unfold F_X4_readBracket_B
  refine ok_aload_n (dd TX4_readBracket_0 0 rfl) 0 rfl ?_
  refine ok_iload_n (dd TX4_readBracket_0 1 rfl) 1 rfl ?_
  refine ok_bipush (v := (12 : Int32)) (dd TX4_readBracket_0 2 rfl) (by decide) ?_
  refine ok_icmp_lt (tgt := 11) (dd TX4_readBracket_0 3 rfl) (by decide) ?_ ?_
  · refine ok_iconst (v := (0 : Int32)) (dd TX4_readBracket_0 6 rfl) (by decide) ?_
    exact O_X4_readBracket_L12 Γ D hB r_X4_readExpr hr_X4_readExpr r_X4_readCond hr_X4_readCond r_X4_readSum hr_X4_readSum r_X4_readPart hr_X4_readPart r_X4_readFactor hr_X4_readFactor r_X4_readBracket hr_X4_readBracket this p0 p1 (0 : Int32) (some this)
  · refine ok_iconst (v := (1 : Int32)) (dd TX4_readBracket_0 4 rfl) (by decide) ?_
    refine ok_goto (tgt := 12) (dd TX4_readBracket_0 5 rfl) (by decide) ?_
    exact O_X4_readBracket_L12 Γ D hB r_X4_readExpr hr_X4_readExpr r_X4_readCond hr_X4_readCond r_X4_readSum hr_X4_readSum r_X4_readPart hr_X4_readPart r_X4_readFactor hr_X4_readFactor r_X4_readBracket hr_X4_readBracket this p0 p1 (1 : Int32) (some this)
def R_X4_readExpr : Nat → (Nat → Int32 → M Unit) × (Nat → Int32 → M Unit) × (Nat → Int32 → M Unit) × (Nat → Int32 → M Unit) × (Nat → Int32 → M Unit) × (Nat → Int32 → Int32 → M Unit)
  | 0 => ((fun b q0 => fl), (fun b q0 => fl), (fun b q0 => fl), (fun b q0 => fl), (fun b q0 => fl), (fun b q0 q1 => fl))
  | n + 1 => ((fun b q0 => F_X4_readExpr_B (R_X4_readExpr n).1 (R_X4_readExpr n).2.1 (R_X4_readExpr n).2.2.1 (R_X4_readExpr n).2.2.2.1 (R_X4_readExpr n).2.2.2.2.1 (R_X4_readExpr n).2.2.2.2.2 b q0), (fun b q0 => F_X4_readCond_B (R_X4_readExpr n).1 (R_X4_readExpr n).2.1 (R_X4_readExpr n).2.2.1 (R_X4_readExpr n).2.2.2.1 (R_X4_readExpr n).2.2.2.2.1 (R_X4_readExpr n).2.2.2.2.2 b q0), (fun b q0 => F_X4_readSum_B (R_X4_readExpr n).1 (R_X4_readExpr n).2.1 (R_X4_readExpr n).2.2.1 (R_X4_readExpr n).2.2.2.1 (R_X4_readExpr n).2.2.2.2.1 (R_X4_readExpr n).2.2.2.2.2 b q0), (fun b q0 => F_X4_readPart_B (R_X4_readExpr n).1 (R_X4_readExpr n).2.1 (R_X4_readExpr n).2.2.1 (R_X4_readExpr n).2.2.2.1 (R_X4_readExpr n).2.2.2.2.1 (R_X4_readExpr n).2.2.2.2.2 b q0), (fun b q0 => F_X4_readFactor_B (R_X4_readExpr n).1 (R_X4_readExpr n).2.1 (R_X4_readExpr n).2.2.1 (R_X4_readExpr n).2.2.2.1 (R_X4_readExpr n).2.2.2.2.1 (R_X4_readExpr n).2.2.2.2.2 b q0), (fun b q0 q1 => F_X4_readBracket_B (R_X4_readExpr n).1 (R_X4_readExpr n).2.1 (R_X4_readExpr n).2.2.1 (R_X4_readExpr n).2.2.2.1 (R_X4_readExpr n).2.2.2.2.1 (R_X4_readExpr n).2.2.2.2.2 b q0 q1))
theorem CR_X4_readExpr (Γ : Gam) : ∀ n : Nat, (∀ (b : Nat) (q0 : Int32), Ct Γ mX4_readExpr (n + 6) vV [va_rf (some b), .int q0] ((R_X4_readExpr n).1 b q0)) ∧ (∀ (b : Nat) (q0 : Int32), Ct Γ mX4_readCond (n + 6) vV [va_rf (some b), .int q0] ((R_X4_readExpr n).2.1 b q0)) ∧ (∀ (b : Nat) (q0 : Int32), Ct Γ mX4_readSum (n + 6) vV [va_rf (some b), .int q0] ((R_X4_readExpr n).2.2.1 b q0)) ∧ (∀ (b : Nat) (q0 : Int32), Ct Γ mX4_readPart (n + 6) vV [va_rf (some b), .int q0] ((R_X4_readExpr n).2.2.2.1 b q0)) ∧ (∀ (b : Nat) (q0 : Int32), Ct Γ mX4_readFactor (n + 6) vV [va_rf (some b), .int q0] ((R_X4_readExpr n).2.2.2.2.1 b q0)) ∧ (∀ (b : Nat) (q0 : Int32) (q1 : Int32), Ct Γ mX4_readBracket (n + 6) vV [va_rf (some b), .int q0, .int q1] ((R_X4_readExpr n).2.2.2.2.2 b q0 q1)) := by
  intro n
  induction n with
  | zero => exact ⟨fun _ _ => ct_fl, fun _ _ => ct_fl, fun _ _ => ct_fl, fun _ _ => ct_fl, fun _ _ => ct_fl, fun _ _ _ => ct_fl⟩
  | succ n ih =>
    obtain ⟨h0, h1, h2, h3, h4, h5⟩ := ih
    have e : n + 1 + 6 = n + 6 + 1 := by omega
    rw [e]
    exact ⟨fun b q0 => C_X4_readExpr_B Γ (n + 6) (by omega) _ h0 _ h1 _ h2 _ h3 _ h4 _ h5 b q0, fun b q0 => C_X4_readCond_B Γ (n + 6) (by omega) _ h0 _ h1 _ h2 _ h3 _ h4 _ h5 b q0, fun b q0 => C_X4_readSum_B Γ (n + 6) (by omega) _ h0 _ h1 _ h2 _ h3 _ h4 _ h5 b q0, fun b q0 => C_X4_readPart_B Γ (n + 6) (by omega) _ h0 _ h1 _ h2 _ h3 _ h4 _ h5 b q0, fun b q0 => C_X4_readFactor_B Γ (n + 6) (by omega) _ h0 _ h1 _ h2 _ h3 _ h4 _ h5 b q0, fun b q0 q1 => C_X4_readBracket_B Γ (n + 6) (by omega) _ h0 _ h1 _ h2 _ h3 _ h4 _ h5 b q0 q1⟩
def F_X4_readExpr (b : Nat) (q0 : Int32) : M Unit := (R_X4_readExpr 100).1 b q0
theorem C_X4_readExpr (Γ : Gam) (b : Nat) (q0 : Int32) : Ct Γ mX4_readExpr 106 vV [va_rf (some b), .int q0] (F_X4_readExpr b q0) := (CR_X4_readExpr Γ 100).1 b q0
def F_X4_readCond (b : Nat) (q0 : Int32) : M Unit := (R_X4_readExpr 100).2.1 b q0
theorem C_X4_readCond (Γ : Gam) (b : Nat) (q0 : Int32) : Ct Γ mX4_readCond 106 vV [va_rf (some b), .int q0] (F_X4_readCond b q0) := (CR_X4_readExpr Γ 100).2.1 b q0
def F_X4_readSum (b : Nat) (q0 : Int32) : M Unit := (R_X4_readExpr 100).2.2.1 b q0
theorem C_X4_readSum (Γ : Gam) (b : Nat) (q0 : Int32) : Ct Γ mX4_readSum 106 vV [va_rf (some b), .int q0] (F_X4_readSum b q0) := (CR_X4_readExpr Γ 100).2.2.1 b q0
def F_X4_readPart (b : Nat) (q0 : Int32) : M Unit := (R_X4_readExpr 100).2.2.2.1 b q0
theorem C_X4_readPart (Γ : Gam) (b : Nat) (q0 : Int32) : Ct Γ mX4_readPart 106 vV [va_rf (some b), .int q0] (F_X4_readPart b q0) := (CR_X4_readExpr Γ 100).2.2.2.1 b q0
def F_X4_readFactor (b : Nat) (q0 : Int32) : M Unit := (R_X4_readExpr 100).2.2.2.2.1 b q0
theorem C_X4_readFactor (Γ : Gam) (b : Nat) (q0 : Int32) : Ct Γ mX4_readFactor 106 vV [va_rf (some b), .int q0] (F_X4_readFactor b q0) := (CR_X4_readExpr Γ 100).2.2.2.2.1 b q0
def F_X4_readBracket (b : Nat) (q0 : Int32) (q1 : Int32) : M Unit := (R_X4_readExpr 100).2.2.2.2.2 b q0 q1
theorem C_X4_readBracket (Γ : Gam) (b : Nat) (q0 : Int32) (q1 : Int32) : Ct Γ mX4_readBracket 106 vV [va_rf (some b), .int q0, .int q1] (F_X4_readBracket b q0 q1) := (CR_X4_readExpr Γ 100).2.2.2.2.2 b q0 q1
