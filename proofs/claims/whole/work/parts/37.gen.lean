def F_X11_receipt (this : Nat) (p0 : Int32) (p1 : Int32) (p2 : Int32) : M Int32 := bn (pRc 11 (some this)) fun b1 => bn (F_X11_memberOf b1 p0) fun v2 => if v2 = none then rt (-1 : Int32) else if p1 < 0 then rt (-1 : Int32) else if (3 : Int32) < p1 then rt (-1 : Int32) else if p2 < 0 then rt (-1 : Int32) else if (3 : Int32) < p2 then rt (-1 : Int32) else bn (gP 11 5 (some this)) fun v3 => bn (pRc 13 v3) fun b4 => bn (F_Jx4a65c_size_8abf5 b4) fun v5 => if v5 < (60 : Int32) then bn (gP 11 5 (some this)) fun v6 => bn (newO 5 4) fun r7 => bn (pRc 5 r7) fun b8 => bn (F_X5_init b8 p0 p1 p2) fun _ => bn (pRc 13 v6) fun b9 => bn (F_Jx4a65c_add_9ea2d b9 r7) fun v10 => bn (gP 11 5 (some this)) fun v11 => bn (pRc 13 v11) fun b12 => bn (F_Jx4a65c_size_8abf5 b12) fun v13 => rt (v13 - (1 : Int32)) else rt (-1 : Int32)
set_option maxRecDepth 100000 in
theorem C_X11_receipt (Γ : Gam) (this : Nat) (p0 : Int32) (p1 : Int32) (p2 : Int32) : Ct Γ mX11_receipt 7 vI [va_rf (some this), .int p0, .int p1, .int p2] (F_X11_receipt this p0 p1 p2) := by
  refine ct_in (lv := [(0, va_rf (some this)), (1, .int p0), (2, .int p1), (3, .int p2)]) (by decide) (by first | rfl | (simp only [lv_args, cat_rf]; rfl)) (by first | exact Nat.le_of_ble_eq_true rfl | (rw [lg_len]; simp only [List.map_cons, List.map_nil, cat_rf]; exact Nat.le_of_ble_eq_true rfl)) ?_
  unfold F_X11_receipt
  refine ok_aload_n (dd TX11_receipt_0 0 rfl) 0 rfl ?_
  refine ok_iload_n (dd TX11_receipt_0 1 rfl) 1 rfl ?_
  refine ok_callVR (cn := 11) [.int p0] [] (fun b1 => C_X11_memberOf Γ b1 p0) rfl cy_X11_memberOf ml_RX11_96 im_X11_memberOf se_X11_memberOf (by decide) (Nat.le_of_ble_eq_true rfl) rfl (dd TX11_receipt_0 2 rfl) (fun v2 => ?_)
  refine ok_ifnull (tgt := 38) (dd TX11_receipt_0 3 rfl) (by decide) ?_ ?_
  · refine ok_iconst (v := (-1 : Int32)) (dd TX11_receipt_0 19 rfl) (by decide) ?_
    exact ok_ireturn (dd TX11_receipt_0 20 rfl) rfl
  · refine ok_iload_n (dd TX11_receipt_0 4 rfl) 2 rfl ?_
    refine ok_if_lt (tgt := 38) (dd TX11_receipt_0 5 rfl) (by decide) ?_ ?_
    · refine ok_iconst (v := (-1 : Int32)) (dd TX11_receipt_0 19 rfl) (by decide) ?_
      exact ok_ireturn (dd TX11_receipt_0 20 rfl) rfl
    · refine ok_iload_n (dd TX11_receipt_0 6 rfl) 2 rfl ?_
      refine ok_iconst (v := (3 : Int32)) (dd TX11_receipt_0 7 rfl) (by decide) ?_
      refine ok_icmp_gt (tgt := 38) (dd TX11_receipt_0 8 rfl) (by decide) ?_ ?_
      · refine ok_iconst (v := (-1 : Int32)) (dd TX11_receipt_0 19 rfl) (by decide) ?_
        exact ok_ireturn (dd TX11_receipt_0 20 rfl) rfl
      · refine ok_iload_n (dd TX11_receipt_0 9 rfl) 3 rfl ?_
        refine ok_if_lt (tgt := 38) (dd TX11_receipt_0 10 rfl) (by decide) ?_ ?_
        · refine ok_iconst (v := (-1 : Int32)) (dd TX11_receipt_0 19 rfl) (by decide) ?_
          exact ok_ireturn (dd TX11_receipt_0 20 rfl) rfl
        · refine ok_iload_n (dd TX11_receipt_0 11 rfl) 3 rfl ?_
          refine ok_iconst (v := (3 : Int32)) (dd TX11_receipt_0 12 rfl) (by decide) ?_
          refine ok_icmp_gt (tgt := 38) (dd TX11_receipt_0 13 rfl) (by decide) ?_ ?_
          · refine ok_iconst (v := (-1 : Int32)) (dd TX11_receipt_0 19 rfl) (by decide) ?_
            exact ok_ireturn (dd TX11_receipt_0 20 rfl) rfl
          · refine ok_aload_n (dd TX11_receipt_0 14 rfl) 0 rfl ?_
            refine ok_gP fl_RX11_40 rfl (dd TX11_receipt_0 15 rfl) (fun v3 => ?_)
            refine ok_callVI (cn := 13) [] [] (fun b4 => C_Jx4a65c_size_8abf5 Γ b4) rfl cy_Jx4a65c_size_8abf5 ml_RX11_85 im_Jx4a65c_size_8abf5 se_Jx4a65c_size_8abf5 (by decide) (Nat.le_of_ble_eq_true rfl) rfl (dd TX11_receipt_0 16 rfl) (fun v5 => ?_)
            refine ok_bipush (v := (60 : Int32)) (dd TX11_receipt_0 17 rfl) (by decide) ?_
            refine ok_icmp_lt (tgt := 40) (dd TX11_receipt_0 18 rfl) (by decide) ?_ ?_
            · refine ok_aload_n (dd TX11_receipt_0 21 rfl) 0 rfl ?_
              refine ok_gP fl_RX11_40 rfl (dd TX11_receipt_0 22 rfl) (fun v6 => ?_)
              refine ok_newO cf_5 tyX5 tyX5_ok df_5 cl_RX11_253 ib_5 in_5 (dd TX11_receipt_0 23 rfl) (fun r7 => ?_)
              refine ok_dup (dd TX11_receipt_0 24 rfl) (by first | rfl | exact cat_rf _) ?_
              refine ok_iload_n (dd TX11_receipt_0 25 rfl) 1 rfl ?_
              refine ok_iload_n (dd TX11_receipt_0 26 rfl) 2 rfl ?_
              refine ok_iload_n (dd TX11_receipt_0 27 rfl) 3 rfl ?_
              refine ok_callI (cn := 5) [.int p0, .int p1, .int p2] [va_rf r7, va_rf v6] (fun b8 => C_X5_init Γ b8 p0 p1 p2) cy_X5_init rfl rfl ml_RX11_255 im_X5_init (by decide) (Nat.le_of_ble_eq_true rfl) rfl (dd TX11_receipt_0 28 rfl) ?_
              refine ok_callVI (cn := 13) [va_rf r7] [] (fun b9 => C_Jx4a65c_add_9ea2d Γ b9 r7) rfl cy_Jx4a65c_add_9ea2d ml_RX11_92 im_Jx4a65c_add_9ea2d se_Jx4a65c_add_9ea2d (by decide) (Nat.le_of_ble_eq_true rfl) rfl (dd TX11_receipt_0 29 rfl) (fun v10 => ?_)
              refine ok_pop (dd TX11_receipt_0 30 rfl) (by first | rfl | exact cat_rf _) ?_
              refine ok_aload_n (dd TX11_receipt_0 31 rfl) 0 rfl ?_
              refine ok_gP fl_RX11_40 rfl (dd TX11_receipt_0 32 rfl) (fun v11 => ?_)
              refine ok_callVI (cn := 13) [] [] (fun b12 => C_Jx4a65c_size_8abf5 Γ b12) rfl cy_Jx4a65c_size_8abf5 ml_RX11_85 im_Jx4a65c_size_8abf5 se_Jx4a65c_size_8abf5 (by decide) (Nat.le_of_ble_eq_true rfl) rfl (dd TX11_receipt_0 33 rfl) (fun v13 => ?_)
              refine ok_iconst (v := (1 : Int32)) (dd TX11_receipt_0 34 rfl) (by decide) ?_
              refine ok_isub (dd TX11_receipt_0 35 rfl) ?_
              exact ok_ireturn (dd TX11_receipt_0 36 rfl) rfl
            · refine ok_iconst (v := (-1 : Int32)) (dd TX11_receipt_0 19 rfl) (by decide) ?_
              exact ok_ireturn (dd TX11_receipt_0 20 rfl) rfl
def F_X11_notice (this : Nat) (p0 : Int32) (p1 : Int32) (p2 : Int32) : M Int32 := bn (pRc 11 (some this)) fun b1 => bn (F_X11_memberOf b1 p0) fun v2 => bn (pRc 11 (some this)) fun b3 => bn (F_X11_receiptOf b3 p2) fun v4 => if v2 = none then rt (-1 : Int32) else bn (F_X11_isMonth p1) fun v5 => if v5 = 0 then rt (-1 : Int32) else if v4 = none then rt (-1 : Int32) else bn (gI 5 3 v4) fun v6 => if v6 = 0 then rt (-1 : Int32) else bn (gI 5 2 v4) fun v7 => if ¬ v7 = p0 then rt (-1 : Int32) else bn (gP 11 6 (some this)) fun v8 => bn (pRc 13 v8) fun b9 => bn (F_Jx4a65c_size_8abf5 b9) fun v10 => if v10 < (80 : Int32) then bn (gP 11 2 (some this)) fun v11 => bn (lP 157 v11 p1) fun v12 => bn (gI 2 3 v12) fun v13 => if v13 = 0 then rt (-1 : Int32) else bn (pRc 11 (some this)) fun b14 => bn (F_X11_latestPrice b14 p1) fun v15 => if v15 = 0 then rt (-1 : Int32) else bn (gP 2 2 v12) fun v16 => bn (pRc 13 v16) fun b17 => bn (F_Jx4a65c_isEmpty_aae02 b17) fun v18 => if ¬ v18 = 0 then rt (-1 : Int32) else bn (pRc 11 (some this)) fun b19 => bn (F_X11_heldOf b19 p0 p1) fun v20 => bn (gP 1 0 v2) fun v21 => bn (lI 104 v21 p1) fun v22 => if v20 < (-v22) then bn (wZ 5 3 v4 (0 : Int32)) fun _ => bn (gP 11 6 (some this)) fun v23 => bn (newO 3 7) fun r24 => bn (gP 2 2 v12) fun v25 => bn (pRc 13 v25) fun b26 => bn (F_Jx4a65c_get_915e3 b26 (0 : Int32)) fun v27 => bn (cst 9 v27) fun _ => bn (gI 9 0 v27) fun v28 => bn (pRc 3 r24) fun b29 => bn (F_X3_init b29 p0 p1 p2 v28) fun _ => bn (pRc 13 v23) fun b30 => bn (F_Jx4a65c_add_9ea2d b30 r24) fun v31 => bn (gP 11 6 (some this)) fun v32 => bn (pRc 13 v32) fun b33 => bn (F_Jx4a65c_size_8abf5 b33) fun v34 => rt (v34 - (1 : Int32)) else rt (-1 : Int32) else rt (-1 : Int32)
set_option maxRecDepth 100000 in
theorem C_X11_notice (Γ : Gam) (this : Nat) (p0 : Int32) (p1 : Int32) (p2 : Int32) : Ct Γ mX11_notice 7 vI [va_rf (some this), .int p0, .int p1, .int p2] (F_X11_notice this p0 p1 p2) := by
  refine ct_in (lv := [(0, va_rf (some this)), (1, .int p0), (2, .int p1), (3, .int p2)]) (by decide) (by first | rfl | (simp only [lv_args, cat_rf]; rfl)) (by first | exact Nat.le_of_ble_eq_true rfl | (rw [lg_len]; simp only [List.map_cons, List.map_nil, cat_rf]; exact Nat.le_of_ble_eq_true rfl)) ?_
  unfold F_X11_notice
  refine ok_aload_n (dd TX11_notice_0 0 rfl) 0 rfl ?_
  refine ok_iload_n (dd TX11_notice_0 1 rfl) 1 rfl ?_
  refine ok_callVR (cn := 11) [.int p0] [] (fun b1 => C_X11_memberOf Γ b1 p0) rfl cy_X11_memberOf ml_RX11_96 im_X11_memberOf se_X11_memberOf (by decide) (Nat.le_of_ble_eq_true rfl) rfl (dd TX11_notice_0 2 rfl) (fun v2 => ?_)
  refine ok_astore (lv' := [(4, va_rf v2), (0, va_rf (some this)), (1, .int p0), (2, .int p1), (3, .int p2)]) (dd TX11_notice_0 3 rfl) (by decide) (by first | rfl | (simp only [List.filter, cat_rf]; rfl)) ?_
  refine ok_aload_n (dd TX11_notice_0 4 rfl) 1 rfl ?_
  refine ok_iload_n (dd TX11_notice_0 5 rfl) 4 rfl ?_
  refine ok_callVR (cn := 11) [.int p2] [] (fun b3 => C_X11_receiptOf Γ b3 p2) rfl cy_X11_receiptOf ml_RX11_258 im_X11_receiptOf se_X11_receiptOf (by decide) (Nat.le_of_ble_eq_true rfl) rfl (dd TX11_notice_0 6 rfl) (fun v4 => ?_)
  refine ok_astore (lv' := [(5, va_rf v4), (4, va_rf v2), (0, va_rf (some this)), (1, .int p0), (2, .int p1), (3, .int p2)]) (dd TX11_notice_0 7 rfl) (by decide) (by first | rfl | (simp only [List.filter, cat_rf]; rfl)) ?_
  refine ok_aload (dd TX11_notice_0 8 rfl) 1 rfl ?_
  refine ok_ifnull (tgt := 60) (dd TX11_notice_0 9 rfl) (by decide) ?_ ?_
  · refine ok_iconst (v := (-1 : Int32)) (dd TX11_notice_0 27 rfl) (by decide) ?_
    exact ok_ireturn (dd TX11_notice_0 28 rfl) rfl
  · refine ok_iload_n (dd TX11_notice_0 10 rfl) 4 rfl ?_
    refine ok_callSI [.int p1] [] (C_X11_isMonth Γ p1) cy_X11_isMonth ml_RX11_127 sm_X11_isMonth (by decide) (Nat.le_of_ble_eq_true rfl) rfl (dd TX11_notice_0 11 rfl) (fun v5 => ?_)
    refine ok_if_eq (tgt := 60) (dd TX11_notice_0 12 rfl) (by decide) ?_ ?_
    · refine ok_iconst (v := (-1 : Int32)) (dd TX11_notice_0 27 rfl) (by decide) ?_
      exact ok_ireturn (dd TX11_notice_0 28 rfl) rfl
    · refine ok_aload (dd TX11_notice_0 13 rfl) 0 rfl ?_
      refine ok_ifnull (tgt := 60) (dd TX11_notice_0 14 rfl) (by decide) ?_ ?_
      · refine ok_iconst (v := (-1 : Int32)) (dd TX11_notice_0 27 rfl) (by decide) ?_
        exact ok_ireturn (dd TX11_notice_0 28 rfl) rfl
      · refine ok_aload (dd TX11_notice_0 15 rfl) 0 rfl ?_
        refine ok_gZ fl_RX11_262 rfl (dd TX11_notice_0 16 rfl) (fun v6 => ?_)
        refine ok_if_eq (tgt := 60) (dd TX11_notice_0 17 rfl) (by decide) ?_ ?_
        · refine ok_iconst (v := (-1 : Int32)) (dd TX11_notice_0 27 rfl) (by decide) ?_
          exact ok_ireturn (dd TX11_notice_0 28 rfl) rfl
        · refine ok_aload (dd TX11_notice_0 18 rfl) 0 rfl ?_
          refine ok_gI fl_RX11_265 rfl (dd TX11_notice_0 19 rfl) (fun v7 => ?_)
          refine ok_iload_n (dd TX11_notice_0 20 rfl) 3 rfl ?_
          refine ok_icmp_ne (tgt := 60) (dd TX11_notice_0 21 rfl) (by decide) ?_ ?_
          · refine ok_iconst (v := (-1 : Int32)) (dd TX11_notice_0 27 rfl) (by decide) ?_
            exact ok_ireturn (dd TX11_notice_0 28 rfl) rfl
          · refine ok_aload_n (dd TX11_notice_0 22 rfl) 2 rfl ?_
            refine ok_gP fl_RX11_43 rfl (dd TX11_notice_0 23 rfl) (fun v8 => ?_)
            refine ok_callVI (cn := 13) [] [] (fun b9 => C_Jx4a65c_size_8abf5 Γ b9) rfl cy_Jx4a65c_size_8abf5 ml_RX11_85 im_Jx4a65c_size_8abf5 se_Jx4a65c_size_8abf5 (by decide) (Nat.le_of_ble_eq_true rfl) rfl (dd TX11_notice_0 24 rfl) (fun v10 => ?_)
            refine ok_bipush (v := (80 : Int32)) (dd TX11_notice_0 25 rfl) (by decide) ?_
            refine ok_icmp_lt (tgt := 62) (dd TX11_notice_0 26 rfl) (by decide) ?_ ?_
            · refine ok_aload_n (dd TX11_notice_0 29 rfl) 2 rfl ?_
              refine ok_gP fl_RX11_25 rfl (dd TX11_notice_0 30 rfl) (fun v11 => ?_)
              refine ok_iload_n (dd TX11_notice_0 31 rfl) 4 rfl ?_
              refine ok_lP5 (kd := 157) (by decide) rfl (dd TX11_notice_0 32 rfl) (fun v12 => ?_)
              refine ok_astore (lv' := [(6, va_rf v12), (5, va_rf v4), (4, va_rf v2), (0, va_rf (some this)), (1, .int p0), (2, .int p1), (3, .int p2)]) (dd TX11_notice_0 33 rfl) (by decide) (by first | rfl | (simp only [List.filter, cat_rf]; rfl)) ?_
              refine ok_aload (dd TX11_notice_0 34 rfl) 0 rfl ?_
              refine ok_gZ fl_RX11_176 rfl (dd TX11_notice_0 35 rfl) (fun v13 => ?_)
              refine ok_if_eq (tgt := 114) (dd TX11_notice_0 36 rfl) (by decide) ?_ ?_
              · refine ok_iconst (v := (-1 : Int32)) (dd TX11_notice_1 15 rfl) (by decide) ?_
                exact ok_ireturn (dd TX11_notice_1 16 rfl) rfl
              · refine ok_aload_n (dd TX11_notice_0 37 rfl) 3 rfl ?_
                refine ok_iload_n (dd TX11_notice_0 38 rfl) 5 rfl ?_
                refine ok_callVI (cn := 11) [.int p1] [] (fun b14 => C_X11_latestPrice Γ b14 p1) rfl cy_X11_latestPrice ml_RX11_268 im_X11_latestPrice se_X11_latestPrice (by decide) (Nat.le_of_ble_eq_true rfl) rfl (dd TX11_notice_0 39 rfl) (fun v15 => ?_)
                refine ok_if_eq (tgt := 114) (dd TX11_notice_1 0 rfl) (by decide) ?_ ?_
                · refine ok_iconst (v := (-1 : Int32)) (dd TX11_notice_1 15 rfl) (by decide) ?_
                  exact ok_ireturn (dd TX11_notice_1 16 rfl) rfl
                · refine ok_aload (dd TX11_notice_1 1 rfl) 0 rfl ?_
                  refine ok_gP fl_RX11_244 rfl (dd TX11_notice_1 2 rfl) (fun v16 => ?_)
                  refine ok_callVI (cn := 13) [] [] (fun b17 => C_Jx4a65c_isEmpty_aae02 Γ b17) rfl cy_Jx4a65c_isEmpty_aae02 ml_RX11_271 im_Jx4a65c_isEmpty_aae02 se_Jx4a65c_isEmpty_aae02 (by decide) (Nat.le_of_ble_eq_true rfl) rfl (dd TX11_notice_1 3 rfl) (fun v18 => ?_)
                  refine ok_if_ne (tgt := 114) (dd TX11_notice_1 4 rfl) (by decide) ?_ ?_
                  · refine ok_iconst (v := (-1 : Int32)) (dd TX11_notice_1 15 rfl) (by decide) ?_
                    exact ok_ireturn (dd TX11_notice_1 16 rfl) rfl
                  · refine ok_aload_n (dd TX11_notice_1 5 rfl) 3 rfl ?_
                    refine ok_iload_n (dd TX11_notice_1 6 rfl) 4 rfl ?_
                    refine ok_iload_n (dd TX11_notice_1 7 rfl) 5 rfl ?_
                    refine ok_callVI (cn := 11) [.int p0, .int p1] [] (fun b19 => C_X11_heldOf Γ b19 p0 p1) rfl cy_X11_heldOf ml_RX11_274 im_X11_heldOf se_X11_heldOf (by decide) (Nat.le_of_ble_eq_true rfl) rfl (dd TX11_notice_1 8 rfl) (fun v20 => ?_)
                    refine ok_aload (dd TX11_notice_1 9 rfl) 2 rfl ?_
                    refine ok_gP fl_RX11_240 rfl (dd TX11_notice_1 10 rfl) (fun v21 => ?_)
                    refine ok_iload_n (dd TX11_notice_1 11 rfl) 5 rfl ?_
                    refine ok_lI (kd := 104) (by decide) rfl (dd TX11_notice_1 12 rfl) (fun v22 => ?_)
                    refine ok_ineg (dd TX11_notice_1 13 rfl) ?_
                    refine ok_icmp_lt (tgt := 116) (dd TX11_notice_1 14 rfl) (by decide) ?_ ?_
                    · refine ok_aload (dd TX11_notice_1 17 rfl) 1 rfl ?_
                      refine ok_iconst (v := (0 : Int32)) (dd TX11_notice_1 18 rfl) (by decide) ?_
                      refine ok_wZ fl_RX11_262 (Or.inl rfl) (tyX5_ok 3 (by decide)) (by decide) rfl (dd TX11_notice_1 19 rfl) ?_
                      refine ok_aload_n (dd TX11_notice_1 20 rfl) 3 rfl ?_
                      refine ok_gP fl_RX11_43 rfl (dd TX11_notice_1 21 rfl) (fun v23 => ?_)
                      refine ok_newO cf_3 tyX3 tyX3_ok df_3 cl_RX11_278 ib_3 in_3 (dd TX11_notice_1 22 rfl) (fun r24 => ?_)
                      refine ok_dup (dd TX11_notice_1 23 rfl) (by first | rfl | exact cat_rf _) ?_
                      refine ok_iload_n (dd TX11_notice_1 24 rfl) 4 rfl ?_
                      refine ok_iload_n (dd TX11_notice_1 25 rfl) 5 rfl ?_
                      refine ok_iload_n (dd TX11_notice_1 26 rfl) 6 rfl ?_
                      refine ok_aload (dd TX11_notice_1 27 rfl) 0 rfl ?_
                      refine ok_gP fl_RX11_244 rfl (dd TX11_notice_1 28 rfl) (fun v25 => ?_)
                      refine ok_iconst (v := (0 : Int32)) (dd TX11_notice_1 29 rfl) (by decide) ?_
                      refine ok_callVR8 (cn := 13) [.int (0 : Int32)] [.int p2, .int p1, .int p0, va_rf r24, va_rf r24, va_rf v23] (fun b26 => C_Jx4a65c_get_915e3 Γ b26 (0 : Int32)) rfl cy_Jx4a65c_get_915e3 ml_RX11_139 im_Jx4a65c_get_915e3 se_Jx4a65c_get_915e3 (by decide) (by simp only [List.map_cons, List.map_nil, cat_rf]; exact Nat.le_of_ble_eq_true rfl) rfl (dd TX11_notice_1 30 rfl) (fun v27 => ?_)
                      refine ok_cst (cn := 9) rfl cl_RX11_115 (dd TX11_notice_1 31 rfl) ?_
                      refine ok_gI fl_RX11_143 rfl (dd TX11_notice_1 32 rfl) (fun v28 => ?_)
                      refine ok_callI (cn := 3) [.int p0, .int p1, .int p2, .int v28] [va_rf r24, va_rf v23] (fun b29 => C_X3_init Γ b29 p0 p1 p2 v28) cy_X3_init rfl rfl ml_RX11_280 im_X3_init (by decide) (Nat.le_of_ble_eq_true rfl) rfl (dd TX11_notice_1 33 rfl) ?_
                      refine ok_callVI (cn := 13) [va_rf r24] [] (fun b30 => C_Jx4a65c_add_9ea2d Γ b30 r24) rfl cy_Jx4a65c_add_9ea2d ml_RX11_92 im_Jx4a65c_add_9ea2d se_Jx4a65c_add_9ea2d (by decide) (Nat.le_of_ble_eq_true rfl) rfl (dd TX11_notice_1 34 rfl) (fun v31 => ?_)
                      refine ok_pop (dd TX11_notice_1 35 rfl) (by first | rfl | exact cat_rf _) ?_
                      refine ok_aload_n (dd TX11_notice_1 36 rfl) 3 rfl ?_
                      refine ok_gP fl_RX11_43 rfl (dd TX11_notice_1 37 rfl) (fun v32 => ?_)
                      refine ok_callVI (cn := 13) [] [] (fun b33 => C_Jx4a65c_size_8abf5 Γ b33) rfl cy_Jx4a65c_size_8abf5 ml_RX11_85 im_Jx4a65c_size_8abf5 se_Jx4a65c_size_8abf5 (by decide) (Nat.le_of_ble_eq_true rfl) rfl (dd TX11_notice_1 38 rfl) (fun v34 => ?_)
                      refine ok_iconst (v := (1 : Int32)) (dd TX11_notice_1 39 rfl) (by decide) ?_
                      refine ok_isub (dd TX11_notice_2 0 rfl) ?_
                      exact ok_ireturn (dd TX11_notice_2 1 rfl) rfl
                    · refine ok_iconst (v := (-1 : Int32)) (dd TX11_notice_1 15 rfl) (by decide) ?_
                      exact ok_ireturn (dd TX11_notice_1 16 rfl) rfl
            · refine ok_iconst (v := (-1 : Int32)) (dd TX11_notice_0 27 rfl) (by decide) ?_
              exact ok_ireturn (dd TX11_notice_0 28 rfl) rfl
def F_X11_told (this : Nat) (p0 : Int32) (p1 : Int32) : M Int32 := bn (pRc 11 (some this)) fun b1 => bn (F_X11_noticeOf b1 p0) fun v2 => if ¬ v2 = none then swF p1 [((0 : Int32), 52, bn (gI 3 5 v2) fun v3 => rt v3), ((1 : Int32), 57, bn (gI 3 3 v2) fun v4 => rt v4), ((2 : Int32), 62, bn (gI 3 0 v2) fun v5 => rt v5), ((3 : Int32), 67, bn (gI 3 2 v2) fun v6 => rt v6), ((4 : Int32), 72, bn (gI 3 4 v2) fun v7 => rt v7), ((5 : Int32), 77, bn (gI 3 1 v2) fun v8 => rt v8)] (rt (-1 : Int32)) else rt (-1 : Int32)
set_option maxRecDepth 100000 in
theorem C_X11_told (Γ : Gam) (this : Nat) (p0 : Int32) (p1 : Int32) : Ct Γ mX11_told 4 vI [va_rf (some this), .int p0, .int p1] (F_X11_told this p0 p1) := by
  refine ct_in (lv := [(0, va_rf (some this)), (1, .int p0), (2, .int p1)]) (by decide) (by first | rfl | (simp only [lv_args, cat_rf]; rfl)) (by first | exact Nat.le_of_ble_eq_true rfl | (rw [lg_len]; simp only [List.map_cons, List.map_nil, cat_rf]; exact Nat.le_of_ble_eq_true rfl)) ?_
  unfold F_X11_told
  refine ok_aload_n (dd TX11_told_0 0 rfl) 0 rfl ?_
  refine ok_iload_n (dd TX11_told_0 1 rfl) 1 rfl ?_
  refine ok_callVR (cn := 11) [.int p0] [] (fun b1 => C_X11_noticeOf Γ b1 p0) rfl cy_X11_noticeOf ml_RX11_314 im_X11_noticeOf se_X11_noticeOf (by decide) (Nat.le_of_ble_eq_true rfl) rfl (dd TX11_told_0 2 rfl) (fun v2 => ?_)
  refine ok_astore_n (lv' := [(3, va_rf v2), (0, va_rf (some this)), (1, .int p0), (2, .int p1)]) (dd TX11_told_0 3 rfl) (by decide) (by first | rfl | (simp only [List.filter, cat_rf]; rfl)) ?_
  refine ok_aload_n (dd TX11_told_0 4 rfl) 0 rfl ?_
  refine ok_ifnonnull (tgt := 12) (dd TX11_told_0 5 rfl) (by decide) ?_ ?_
  · refine ok_iload_n (dd TX11_told_0 8 rfl) 3 rfl ?_
    refine ok_tsw (dt := 82) (dd TX11_told_0 9 rfl) rfl (List.forall_mem_cons.mpr ⟨?_, List.forall_mem_cons.mpr ⟨?_, List.forall_mem_cons.mpr ⟨?_, List.forall_mem_cons.mpr ⟨?_, List.forall_mem_cons.mpr ⟨?_, List.forall_mem_cons.mpr ⟨?_, fun _ h => absurd h List.not_mem_nil⟩⟩⟩⟩⟩⟩) ?_
    · show Ok _ _ _ _ 52 _ _ (bn (gI 3 5 v2) fun v3 => rt v3)
      refine ok_aload_n (dd TX11_told_0 10 rfl) 0 rfl ?_
      refine ok_gI fl_RX11_305 rfl (dd TX11_told_0 11 rfl) (fun v3 => ?_)
      exact ok_ireturn (dd TX11_told_0 12 rfl) rfl
    · show Ok _ _ _ _ 57 _ _ (bn (gI 3 3 v2) fun v4 => rt v4)
      refine ok_aload_n (dd TX11_told_0 13 rfl) 0 rfl ?_
      refine ok_gI fl_RX11_289 rfl (dd TX11_told_0 14 rfl) (fun v4 => ?_)
      exact ok_ireturn (dd TX11_told_0 15 rfl) rfl
    · show Ok _ _ _ _ 62 _ _ (bn (gI 3 0 v2) fun v5 => rt v5)
      refine ok_aload_n (dd TX11_told_0 16 rfl) 0 rfl ?_
      refine ok_gI fl_RX11_299 rfl (dd TX11_told_0 17 rfl) (fun v5 => ?_)
      exact ok_ireturn (dd TX11_told_0 18 rfl) rfl
    · show Ok _ _ _ _ 67 _ _ (bn (gI 3 2 v2) fun v6 => rt v6)
      refine ok_aload_n (dd TX11_told_0 19 rfl) 0 rfl ?_
      refine ok_gI fl_RX11_302 rfl (dd TX11_told_0 20 rfl) (fun v6 => ?_)
      exact ok_ireturn (dd TX11_told_0 21 rfl) rfl
    · show Ok _ _ _ _ 72 _ _ (bn (gI 3 4 v2) fun v7 => rt v7)
      refine ok_aload_n (dd TX11_told_0 22 rfl) 0 rfl ?_
      refine ok_gI fl_RX11_293 rfl (dd TX11_told_0 23 rfl) (fun v7 => ?_)
      exact ok_ireturn (dd TX11_told_0 24 rfl) rfl
    · show Ok _ _ _ _ 77 _ _ (bn (gI 3 1 v2) fun v8 => rt v8)
      refine ok_aload_n (dd TX11_told_0 25 rfl) 0 rfl ?_
      refine ok_gI fl_RX11_292 rfl (dd TX11_told_0 26 rfl) (fun v8 => ?_)
      exact ok_ireturn (dd TX11_told_0 27 rfl) rfl
    · show Ok _ _ _ _ 82 _ _ (rt (-1 : Int32))
      refine ok_iconst (v := (-1 : Int32)) (dd TX11_told_0 28 rfl) (by decide) ?_
      exact ok_ireturn (dd TX11_told_0 29 rfl) rfl
  · refine ok_iconst (v := (-1 : Int32)) (dd TX11_told_0 6 rfl) (by decide) ?_
    exact ok_ireturn (dd TX11_told_0 7 rfl) rfl
def F_X11_stored (this : Nat) (p0 : Int32) (p1 : Int32) : M Int32 := bn (pRc 11 (some this)) fun b1 => bn (F_X11_receiptOf b1 p0) fun v2 => if ¬ v2 = none then swF p1 [((0 : Int32), 44, bn (gI 5 0 v2) fun v3 => rt v3), ((1 : Int32), 49, bn (gI 5 1 v2) fun v4 => rt v4), ((2 : Int32), 54, bn (gI 5 2 v2) fun v5 => rt v5), ((3 : Int32), 59, bn (gI 5 3 v2) fun v6 => if v6 = 0 then rt (0 : Int32) else rt (1 : Int32))] (rt (-1 : Int32)) else rt (-1 : Int32)
set_option maxRecDepth 100000 in
theorem C_X11_stored (Γ : Gam) (this : Nat) (p0 : Int32) (p1 : Int32) : Ct Γ mX11_stored 4 vI [va_rf (some this), .int p0, .int p1] (F_X11_stored this p0 p1) := by
  refine ct_in (lv := [(0, va_rf (some this)), (1, .int p0), (2, .int p1)]) (by decide) (by first | rfl | (simp only [lv_args, cat_rf]; rfl)) (by first | exact Nat.le_of_ble_eq_true rfl | (rw [lg_len]; simp only [List.map_cons, List.map_nil, cat_rf]; exact Nat.le_of_ble_eq_true rfl)) ?_
  unfold F_X11_stored
  refine ok_aload_n (dd TX11_stored_0 0 rfl) 0 rfl ?_
  refine ok_iload_n (dd TX11_stored_0 1 rfl) 1 rfl ?_
  refine ok_callVR (cn := 11) [.int p0] [] (fun b1 => C_X11_receiptOf Γ b1 p0) rfl cy_X11_receiptOf ml_RX11_258 im_X11_receiptOf se_X11_receiptOf (by decide) (Nat.le_of_ble_eq_true rfl) rfl (dd TX11_stored_0 2 rfl) (fun v2 => ?_)
  refine ok_astore_n (lv' := [(3, va_rf v2), (0, va_rf (some this)), (1, .int p0), (2, .int p1)]) (dd TX11_stored_0 3 rfl) (by decide) (by first | rfl | (simp only [List.filter, cat_rf]; rfl)) ?_
  refine ok_aload_n (dd TX11_stored_0 4 rfl) 0 rfl ?_
  refine ok_ifnonnull (tgt := 12) (dd TX11_stored_0 5 rfl) (by decide) ?_ ?_
  · refine ok_iload_n (dd TX11_stored_0 8 rfl) 3 rfl ?_
    refine ok_tsw (dt := 72) (dd TX11_stored_0 9 rfl) rfl (List.forall_mem_cons.mpr ⟨?_, List.forall_mem_cons.mpr ⟨?_, List.forall_mem_cons.mpr ⟨?_, List.forall_mem_cons.mpr ⟨?_, fun _ h => absurd h List.not_mem_nil⟩⟩⟩⟩) ?_
    · show Ok _ _ _ _ 44 _ _ (bn (gI 5 0 v2) fun v3 => rt v3)
      refine ok_aload_n (dd TX11_stored_0 10 rfl) 0 rfl ?_
      refine ok_gI fl_RX11_308 rfl (dd TX11_stored_0 11 rfl) (fun v3 => ?_)
      exact ok_ireturn (dd TX11_stored_0 12 rfl) rfl
    · show Ok _ _ _ _ 49 _ _ (bn (gI 5 1 v2) fun v4 => rt v4)
      refine ok_aload_n (dd TX11_stored_0 13 rfl) 0 rfl ?_
      refine ok_gI fl_RX11_311 rfl (dd TX11_stored_0 14 rfl) (fun v4 => ?_)
      exact ok_ireturn (dd TX11_stored_0 15 rfl) rfl
    · show Ok _ _ _ _ 54 _ _ (bn (gI 5 2 v2) fun v5 => rt v5)
      refine ok_aload_n (dd TX11_stored_0 16 rfl) 0 rfl ?_
      refine ok_gI fl_RX11_265 rfl (dd TX11_stored_0 17 rfl) (fun v5 => ?_)
      exact ok_ireturn (dd TX11_stored_0 18 rfl) rfl
    · show Ok _ _ _ _ 59 _ _ (bn (gI 5 3 v2) fun v6 => if v6 = 0 then rt (0 : Int32) else rt (1 : Int32))
      refine ok_aload_n (dd TX11_stored_0 19 rfl) 0 rfl ?_
      refine ok_gZ fl_RX11_262 rfl (dd TX11_stored_0 20 rfl) (fun v6 => ?_)
      refine ok_if_eq (tgt := 70) (dd TX11_stored_0 21 rfl) (by decide) ?_ ?_
      · refine ok_iconst (v := (0 : Int32)) (dd TX11_stored_0 24 rfl) (by decide) ?_
        exact ok_ireturn (dd TX11_stored_0 25 rfl) rfl
      · refine ok_iconst (v := (1 : Int32)) (dd TX11_stored_0 22 rfl) (by decide) ?_
        refine ok_goto (tgt := 71) (dd TX11_stored_0 23 rfl) (by decide) ?_
        exact ok_ireturn (dd TX11_stored_0 25 rfl) rfl
    · show Ok _ _ _ _ 72 _ _ (rt (-1 : Int32))
      refine ok_iconst (v := (-1 : Int32)) (dd TX11_stored_0 26 rfl) (by decide) ?_
      exact ok_ireturn (dd TX11_stored_0 27 rfl) rfl
  · refine ok_iconst (v := (-1 : Int32)) (dd TX11_stored_0 6 rfl) (by decide) ?_
    exact ok_ireturn (dd TX11_stored_0 7 rfl) rfl
def F_X11_squeeze (this : Nat) (p0 : Int32) (p1 : Int32) : M Int32 := bn (F_X11_isMonth p0) fun v1 => if ¬ v1 = 0 then swF p1 [((0 : Int32), 44, bn (gP 11 2 (some this)) fun v2 => bn (lP 157 v2 p0) fun v3 => bn (gI 2 3 v3) fun v4 => if v4 = 0 then rt (0 : Int32) else rt (1 : Int32)), ((1 : Int32), 62, bn (pRc 11 (some this)) fun b5 => bn (F_X11_dueIn b5 p0) fun v6 => rt v6), ((2 : Int32), 68, bn (pRc 11 (some this)) fun b7 => bn (F_X11_cornerOf b7 p0) fun v8 => rt v8), ((3 : Int32), 74, bn (pRc 11 (some this)) fun b9 => bn (F_X11_cornerOf b9 p0) fun v10 => bn (pRc 11 (some this)) fun b11 => bn (F_X11_receiptsBut b11 v10) fun v12 => rt v12), ((4 : Int32), 84, bn (pRc 11 (some this)) fun b13 => bn (F_X11_isSqueezed b13 p0) fun v14 => if v14 = 0 then rt (0 : Int32) else rt (1 : Int32))] (rt (-1 : Int32)) else rt (-1 : Int32)
set_option maxRecDepth 100000 in
theorem C_X11_squeeze (Γ : Gam) (this : Nat) (p0 : Int32) (p1 : Int32) : Ct Γ mX11_squeeze 5 vI [va_rf (some this), .int p0, .int p1] (F_X11_squeeze this p0 p1) := by
  refine ct_in (lv := [(0, va_rf (some this)), (1, .int p0), (2, .int p1)]) (by decide) (by first | rfl | (simp only [lv_args, cat_rf]; rfl)) (by first | exact Nat.le_of_ble_eq_true rfl | (rw [lg_len]; simp only [List.map_cons, List.map_nil, cat_rf]; exact Nat.le_of_ble_eq_true rfl)) ?_
  unfold F_X11_squeeze
  refine ok_iload_n (dd TX11_squeeze_0 0 rfl) 1 rfl ?_
  refine ok_callSI [.int p0] [] (C_X11_isMonth Γ p0) cy_X11_isMonth ml_RX11_127 sm_X11_isMonth (by decide) (Nat.le_of_ble_eq_true rfl) rfl (dd TX11_squeeze_0 1 rfl) (fun v1 => ?_)
  refine ok_if_ne (tgt := 9) (dd TX11_squeeze_0 2 rfl) (by decide) ?_ ?_
  · refine ok_iload_n (dd TX11_squeeze_0 5 rfl) 2 rfl ?_
    refine ok_tsw (dt := 98) (dd TX11_squeeze_0 6 rfl) rfl (List.forall_mem_cons.mpr ⟨?_, List.forall_mem_cons.mpr ⟨?_, List.forall_mem_cons.mpr ⟨?_, List.forall_mem_cons.mpr ⟨?_, List.forall_mem_cons.mpr ⟨?_, fun _ h => absurd h List.not_mem_nil⟩⟩⟩⟩⟩) ?_
    · show Ok _ _ _ _ 44 _ _ (bn (gP 11 2 (some this)) fun v2 => bn (lP 157 v2 p0) fun v3 => bn (gI 2 3 v3) fun v4 => if v4 = 0 then rt (0 : Int32) else rt (1 : Int32))
      refine ok_aload_n (dd TX11_squeeze_0 7 rfl) 0 rfl ?_
      refine ok_gP fl_RX11_25 rfl (dd TX11_squeeze_0 8 rfl) (fun v2 => ?_)
      refine ok_iload_n (dd TX11_squeeze_0 9 rfl) 1 rfl ?_
      refine ok_lP5 (kd := 157) (by decide) rfl (dd TX11_squeeze_0 10 rfl) (fun v3 => ?_)
      refine ok_gZ fl_RX11_176 rfl (dd TX11_squeeze_0 11 rfl) (fun v4 => ?_)
      refine ok_if_eq (tgt := 60) (dd TX11_squeeze_0 12 rfl) (by decide) ?_ ?_
      · refine ok_iconst (v := (0 : Int32)) (dd TX11_squeeze_0 15 rfl) (by decide) ?_
        exact ok_ireturn (dd TX11_squeeze_0 16 rfl) rfl
      · refine ok_iconst (v := (1 : Int32)) (dd TX11_squeeze_0 13 rfl) (by decide) ?_
        refine ok_goto (tgt := 61) (dd TX11_squeeze_0 14 rfl) (by decide) ?_
        exact ok_ireturn (dd TX11_squeeze_0 16 rfl) rfl
    · show Ok _ _ _ _ 62 _ _ (bn (pRc 11 (some this)) fun b5 => bn (F_X11_dueIn b5 p0) fun v6 => rt v6)
      refine ok_aload_n (dd TX11_squeeze_0 17 rfl) 0 rfl ?_
      refine ok_iload_n (dd TX11_squeeze_0 18 rfl) 1 rfl ?_
      refine ok_callVI (cn := 11) [.int p0] [] (fun b5 => C_X11_dueIn Γ b5 p0) rfl cy_X11_dueIn ml_RX11_317 im_X11_dueIn se_X11_dueIn (by decide) (Nat.le_of_ble_eq_true rfl) rfl (dd TX11_squeeze_0 19 rfl) (fun v6 => ?_)
      exact ok_ireturn (dd TX11_squeeze_0 20 rfl) rfl
    · show Ok _ _ _ _ 68 _ _ (bn (pRc 11 (some this)) fun b7 => bn (F_X11_cornerOf b7 p0) fun v8 => rt v8)
      refine ok_aload_n (dd TX11_squeeze_0 21 rfl) 0 rfl ?_
      refine ok_iload_n (dd TX11_squeeze_0 22 rfl) 1 rfl ?_
      refine ok_callVI (cn := 11) [.int p0] [] (fun b7 => C_X11_cornerOf Γ b7 p0) rfl cy_X11_cornerOf ml_RX11_320 im_X11_cornerOf se_X11_cornerOf (by decide) (Nat.le_of_ble_eq_true rfl) rfl (dd TX11_squeeze_0 23 rfl) (fun v8 => ?_)
      exact ok_ireturn (dd TX11_squeeze_0 24 rfl) rfl
    · show Ok _ _ _ _ 74 _ _ (bn (pRc 11 (some this)) fun b9 => bn (F_X11_cornerOf b9 p0) fun v10 => bn (pRc 11 (some this)) fun b11 => bn (F_X11_receiptsBut b11 v10) fun v12 => rt v12)
      refine ok_aload_n (dd TX11_squeeze_0 25 rfl) 0 rfl ?_
      refine ok_aload_n (dd TX11_squeeze_0 26 rfl) 0 rfl ?_
      refine ok_iload_n (dd TX11_squeeze_0 27 rfl) 1 rfl ?_
      refine ok_callVI (cn := 11) [.int p0] [va_rf (some this)] (fun b9 => C_X11_cornerOf Γ b9 p0) rfl cy_X11_cornerOf ml_RX11_320 im_X11_cornerOf se_X11_cornerOf (by decide) (Nat.le_of_ble_eq_true rfl) rfl (dd TX11_squeeze_0 28 rfl) (fun v10 => ?_)
      refine ok_callVI (cn := 11) [.int v10] [] (fun b11 => C_X11_receiptsBut Γ b11 v10) rfl cy_X11_receiptsBut ml_RX11_323 im_X11_receiptsBut se_X11_receiptsBut (by decide) (Nat.le_of_ble_eq_true rfl) rfl (dd TX11_squeeze_0 29 rfl) (fun v12 => ?_)
      exact ok_ireturn (dd TX11_squeeze_0 30 rfl) rfl
    · show Ok _ _ _ _ 84 _ _ (bn (pRc 11 (some this)) fun b13 => bn (F_X11_isSqueezed b13 p0) fun v14 => if v14 = 0 then rt (0 : Int32) else rt (1 : Int32))
      refine ok_aload_n (dd TX11_squeeze_0 31 rfl) 0 rfl ?_
      refine ok_iload_n (dd TX11_squeeze_0 32 rfl) 1 rfl ?_
      refine ok_callVI (cn := 11) [.int p0] [] (fun b13 => C_X11_isSqueezed Γ b13 p0) rfl cy_X11_isSqueezed ml_RX11_326 im_X11_isSqueezed se_X11_isSqueezed (by decide) (Nat.le_of_ble_eq_true rfl) rfl (dd TX11_squeeze_0 33 rfl) (fun v14 => ?_)
      refine ok_if_eq (tgt := 96) (dd TX11_squeeze_0 34 rfl) (by decide) ?_ ?_
      · refine ok_iconst (v := (0 : Int32)) (dd TX11_squeeze_0 37 rfl) (by decide) ?_
        exact ok_ireturn (dd TX11_squeeze_0 38 rfl) rfl
      · refine ok_iconst (v := (1 : Int32)) (dd TX11_squeeze_0 35 rfl) (by decide) ?_
        refine ok_goto (tgt := 97) (dd TX11_squeeze_0 36 rfl) (by decide) ?_
        exact ok_ireturn (dd TX11_squeeze_0 38 rfl) rfl
    · show Ok _ _ _ _ 98 _ _ (rt (-1 : Int32))
      refine ok_iconst (v := (-1 : Int32)) (dd TX11_squeeze_0 39 rfl) (by decide) ?_
      exact ok_ireturn (dd TX11_squeeze_1 0 rfl) rfl
  · refine ok_iconst (v := (-1 : Int32)) (dd TX11_squeeze_0 3 rfl) (by decide) ?_
    exact ok_ireturn (dd TX11_squeeze_0 4 rfl) rfl
def F_X11_right (this : Nat) (p0 : Int32) (p1 : Int32) (p2 : Int32) : M Int32 := bn (F_X11_isMonth p0) fun v1 => if v1 = 0 then rz (0 : Int32) else bn (F_X11_isPrice p2) fun v2 => if v2 = 0 then rz (0 : Int32) else bn (pRc 11 (some this)) fun b3 => bn (F_X11_isOver b3 p1) fun v4 => if v4 = 0 then rz (0 : Int32) else bn (gI 11 10 (some this)) fun v5 => if v5 < (100 : Int32) then bn (gP 11 7 (some this)) fun v6 => bn (pRc 13 v6) fun b7 => bn (F_Jx4a65c_get_915e3 b7 p1) fun v8 => bn (cst 0 v8) fun _ => bn (gP 0 0 v8) fun v9 => bn (lP 86 v9 p0) fun v10 => if ¬ v10 = none then bn (gP 11 7 (some this)) fun v11 => bn (pRc 13 v11) fun b12 => bn (F_Jx4a65c_get_915e3 b12 p1) fun v13 => bn (cst 0 v13) fun _ => bn (gP 0 0 v13) fun v14 => bn (newO 8 3) fun r15 => bn (gI 11 8 (some this)) fun v16 => bn (pRc 8 r15) fun b17 => bn (F_X8_init b17 p2 v16 v10) fun _ => bn (stP 86 8 v14 p0 r15) fun _ => bn (gI 11 10 (some this)) fun v18 => bn (wI 11 10 (some this) (v18 + (1 : Int32))) fun _ => rz (1 : Int32) else rz (0 : Int32) else rz (0 : Int32)
set_option maxRecDepth 100000 in
theorem C_X11_right (Γ : Gam) (this : Nat) (p0 : Int32) (p1 : Int32) (p2 : Int32) : Ct Γ mX11_right 3 vI [va_rf (some this), .int p0, .int p1, .int p2] (F_X11_right this p0 p1 p2) := by
  refine ct_in (lv := [(0, va_rf (some this)), (1, .int p0), (2, .int p1), (3, .int p2)]) (by decide) (by first | rfl | (simp only [lv_args, cat_rf]; rfl)) (by first | exact Nat.le_of_ble_eq_true rfl | (rw [lg_len]; simp only [List.map_cons, List.map_nil, cat_rf]; exact Nat.le_of_ble_eq_true rfl)) ?_
  unfold F_X11_right
  refine ok_iload_n (dd TX11_right_0 0 rfl) 1 rfl ?_
  refine ok_callSI [.int p0] [] (C_X11_isMonth Γ p0) cy_X11_isMonth ml_RX11_127 sm_X11_isMonth (by decide) (Nat.le_of_ble_eq_true rfl) rfl (dd TX11_right_0 1 rfl) (fun v1 => ?_)
  refine ok_if_eq (tgt := 31) (dd TX11_right_0 2 rfl) (by decide) ?_ ?_
  · refine ok_iconst (v := (0 : Int32)) (dd TX11_right_0 14 rfl) (by decide) ?_
    exact ok_zreturn (dd TX11_right_0 15 rfl) rfl
  · refine ok_iload_n (dd TX11_right_0 3 rfl) 3 rfl ?_
    refine ok_callSI [.int p2] [] (C_X11_isPrice Γ p2) cy_X11_isPrice ml_RX11_329 sm_X11_isPrice (by decide) (Nat.le_of_ble_eq_true rfl) rfl (dd TX11_right_0 4 rfl) (fun v2 => ?_)
    refine ok_if_eq (tgt := 31) (dd TX11_right_0 5 rfl) (by decide) ?_ ?_
    · refine ok_iconst (v := (0 : Int32)) (dd TX11_right_0 14 rfl) (by decide) ?_
      exact ok_zreturn (dd TX11_right_0 15 rfl) rfl
    · refine ok_aload_n (dd TX11_right_0 6 rfl) 0 rfl ?_
      refine ok_iload_n (dd TX11_right_0 7 rfl) 2 rfl ?_
      refine ok_callVI (cn := 11) [.int p1] [] (fun b3 => C_X11_isOver Γ b3 p1) rfl cy_X11_isOver ml_RX11_332 im_X11_isOver se_X11_isOver (by decide) (Nat.le_of_ble_eq_true rfl) rfl (dd TX11_right_0 8 rfl) (fun v4 => ?_)
      refine ok_if_eq (tgt := 31) (dd TX11_right_0 9 rfl) (by decide) ?_ ?_
      · refine ok_iconst (v := (0 : Int32)) (dd TX11_right_0 14 rfl) (by decide) ?_
        exact ok_zreturn (dd TX11_right_0 15 rfl) rfl
      · refine ok_aload_n (dd TX11_right_0 10 rfl) 0 rfl ?_
        refine ok_gI fl_RX11_335 rfl (dd TX11_right_0 11 rfl) (fun v5 => ?_)
        refine ok_bipush (v := (100 : Int32)) (dd TX11_right_0 12 rfl) (by decide) ?_
        refine ok_icmp_lt (tgt := 33) (dd TX11_right_0 13 rfl) (by decide) ?_ ?_
        · refine ok_aload_n (dd TX11_right_0 16 rfl) 0 rfl ?_
          refine ok_gP fl_RX11_46 rfl (dd TX11_right_0 17 rfl) (fun v6 => ?_)
          refine ok_iload_n (dd TX11_right_0 18 rfl) 2 rfl ?_
          refine ok_callVR (cn := 13) [.int p1] [] (fun b7 => C_Jx4a65c_get_915e3 Γ b7 p1) rfl cy_Jx4a65c_get_915e3 ml_RX11_139 im_Jx4a65c_get_915e3 se_Jx4a65c_get_915e3 (by decide) (Nat.le_of_ble_eq_true rfl) rfl (dd TX11_right_0 19 rfl) (fun v8 => ?_)
          refine ok_cst (cn := 0) rfl cl_RX11_189 (dd TX11_right_0 20 rfl) ?_
          refine ok_gP fl_RX11_199 rfl (dd TX11_right_0 21 rfl) (fun v9 => ?_)
          refine ok_iload_n (dd TX11_right_0 22 rfl) 1 rfl ?_
          refine ok_lP6 (kd := 86) (by decide) rfl (dd TX11_right_0 23 rfl) (fun v10 => ?_)
          refine ok_astore (lv' := [(4, va_rf v10), (0, va_rf (some this)), (1, .int p0), (2, .int p1), (3, .int p2)]) (dd TX11_right_0 24 rfl) (by decide) (by first | rfl | (simp only [List.filter, cat_rf]; rfl)) ?_
          refine ok_aload (dd TX11_right_0 25 rfl) 0 rfl ?_
          refine ok_ifnonnull (tgt := 58) (dd TX11_right_0 26 rfl) (by decide) ?_ ?_
          · refine ok_aload_n (dd TX11_right_0 29 rfl) 1 rfl ?_
            refine ok_gP fl_RX11_46 rfl (dd TX11_right_0 30 rfl) (fun v11 => ?_)
            refine ok_iload_n (dd TX11_right_0 31 rfl) 3 rfl ?_
            refine ok_callVR (cn := 13) [.int p1] [] (fun b12 => C_Jx4a65c_get_915e3 Γ b12 p1) rfl cy_Jx4a65c_get_915e3 ml_RX11_139 im_Jx4a65c_get_915e3 se_Jx4a65c_get_915e3 (by decide) (Nat.le_of_ble_eq_true rfl) rfl (dd TX11_right_0 32 rfl) (fun v13 => ?_)
            refine ok_cst (cn := 0) rfl cl_RX11_189 (dd TX11_right_0 33 rfl) ?_
            refine ok_gP fl_RX11_199 rfl (dd TX11_right_0 34 rfl) (fun v14 => ?_)
            refine ok_iload_n (dd TX11_right_0 35 rfl) 2 rfl ?_
            refine ok_newO cf_8 tyX8 tyX8_ok df_8 cl_RX11_203 ib_8 in_8 (dd TX11_right_0 36 rfl) (fun r15 => ?_)
            refine ok_dup (dd TX11_right_0 37 rfl) (by first | rfl | exact cat_rf _) ?_
            refine ok_iload_n (dd TX11_right_0 38 rfl) 4 rfl ?_
            refine ok_aload_n (dd TX11_right_0 39 rfl) 1 rfl ?_
            refine ok_gI fl_RX11_186 rfl (dd TX11_right_1 0 rfl) (fun v16 => ?_)
            refine ok_aload (dd TX11_right_1 1 rfl) 0 rfl ?_
            refine ok_callI (cn := 8) [.int p2, .int v16, va_rf v10] [va_rf r15, .int p0, va_rf v14] (fun b17 => C_X8_init Γ b17 p2 v16 v10) cy_X8_init rfl rfl ml_RX11_205 im_X8_init (by decide) (Nat.le_of_ble_eq_true rfl) rfl (dd TX11_right_1 2 rfl) ?_
            refine ok_stP6 (kd := 86) (by decide) rfl (dd TX11_right_1 3 rfl) ?_
            refine ok_aload_n (dd TX11_right_1 4 rfl) 1 rfl ?_
            refine ok_dup (dd TX11_right_1 5 rfl) (by first | rfl | exact cat_rf _) ?_
            refine ok_gI fl_RX11_335 rfl (dd TX11_right_1 6 rfl) (fun v18 => ?_)
            refine ok_iconst (v := (1 : Int32)) (dd TX11_right_1 7 rfl) (by decide) ?_
            refine ok_iadd (dd TX11_right_1 8 rfl) ?_
            refine ok_wI fl_RX11_335 (Or.inl rfl) (tyX11_ok 10 (by decide)) (by decide) rfl (dd TX11_right_1 9 rfl) ?_
            refine ok_iconst (v := (1 : Int32)) (dd TX11_right_1 10 rfl) (by decide) ?_
            exact ok_zreturn (dd TX11_right_1 11 rfl) rfl
          · refine ok_iconst (v := (0 : Int32)) (dd TX11_right_0 27 rfl) (by decide) ?_
            exact ok_zreturn (dd TX11_right_0 28 rfl) rfl
        · refine ok_iconst (v := (0 : Int32)) (dd TX11_right_0 14 rfl) (by decide) ?_
          exact ok_zreturn (dd TX11_right_0 15 rfl) rfl
def F_X11_settle (this : Nat) (p0 : Int32) (p1 : Int32) (p2 : Int32) : M Int32 := bn (F_X11_isMonth p0) fun v1 => if v1 = 0 then rt (-1 : Int32) else bn (pRc 11 (some this)) fun b2 => bn (F_X11_isKnown b2 p1 p2) fun v3 => if ¬ v3 = 0 then bn (pRc 11 (some this)) fun b4 => bn (F_X11_priceOn b4 p0 p1 p2) fun v5 => if ¬ v5 = 0 then rt v5 else rt (-1 : Int32) else rt (-1 : Int32)
set_option maxRecDepth 100000 in
theorem C_X11_settle (Γ : Gam) (this : Nat) (p0 : Int32) (p1 : Int32) (p2 : Int32) : Ct Γ mX11_settle 4 vI [va_rf (some this), .int p0, .int p1, .int p2] (F_X11_settle this p0 p1 p2) := by
  refine ct_in (lv := [(0, va_rf (some this)), (1, .int p0), (2, .int p1), (3, .int p2)]) (by decide) (by first | rfl | (simp only [lv_args, cat_rf]; rfl)) (by first | exact Nat.le_of_ble_eq_true rfl | (rw [lg_len]; simp only [List.map_cons, List.map_nil, cat_rf]; exact Nat.le_of_ble_eq_true rfl)) ?_
  unfold F_X11_settle
  refine ok_iload_n (dd TX11_settle_0 0 rfl) 1 rfl ?_
  refine ok_callSI [.int p0] [] (C_X11_isMonth Γ p0) cy_X11_isMonth ml_RX11_127 sm_X11_isMonth (by decide) (Nat.le_of_ble_eq_true rfl) rfl (dd TX11_settle_0 1 rfl) (fun v1 => ?_)
  refine ok_if_eq (tgt := 16) (dd TX11_settle_0 2 rfl) (by decide) ?_ ?_
  · refine ok_iconst (v := (-1 : Int32)) (dd TX11_settle_0 8 rfl) (by decide) ?_
    exact ok_ireturn (dd TX11_settle_0 9 rfl) rfl
  · refine ok_aload_n (dd TX11_settle_0 3 rfl) 0 rfl ?_
    refine ok_iload_n (dd TX11_settle_0 4 rfl) 2 rfl ?_
    refine ok_iload_n (dd TX11_settle_0 5 rfl) 3 rfl ?_
    refine ok_callVI (cn := 11) [.int p1, .int p2] [] (fun b2 => C_X11_isKnown Γ b2 p1 p2) rfl cy_X11_isKnown ml_RX11_338 im_X11_isKnown se_X11_isKnown (by decide) (Nat.le_of_ble_eq_true rfl) rfl (dd TX11_settle_0 6 rfl) (fun v3 => ?_)
    refine ok_if_ne (tgt := 18) (dd TX11_settle_0 7 rfl) (by decide) ?_ ?_
    · refine ok_aload_n (dd TX11_settle_0 10 rfl) 0 rfl ?_
      refine ok_iload_n (dd TX11_settle_0 11 rfl) 1 rfl ?_
      refine ok_iload_n (dd TX11_settle_0 12 rfl) 2 rfl ?_
      refine ok_iload_n (dd TX11_settle_0 13 rfl) 3 rfl ?_
      refine ok_callVI (cn := 11) [.int p0, .int p1, .int p2] [] (fun b4 => C_X11_priceOn Γ b4 p0 p1 p2) rfl cy_X11_priceOn ml_RX11_342 im_X11_priceOn se_X11_priceOn (by decide) (Nat.le_of_ble_eq_true rfl) rfl (dd TX11_settle_0 14 rfl) (fun v5 => ?_)
      refine ok_istore (lv' := [(4, .int v5), (0, va_rf (some this)), (1, .int p0), (2, .int p1), (3, .int p2)]) (dd TX11_settle_0 15 rfl) (by decide) (by first | rfl | (simp only [List.filter, cat_rf]; rfl)) ?_
      refine ok_iload (dd TX11_settle_0 16 rfl) 0 rfl ?_
      refine ok_if_ne (tgt := 36) (dd TX11_settle_0 17 rfl) (by decide) ?_ ?_
      · refine ok_iload (dd TX11_settle_0 20 rfl) 0 rfl ?_
        exact ok_ireturn (dd TX11_settle_0 21 rfl) rfl
      · refine ok_iconst (v := (-1 : Int32)) (dd TX11_settle_0 18 rfl) (by decide) ?_
        refine ok_goto (tgt := 38) (dd TX11_settle_0 19 rfl) (by decide) ?_
        exact ok_ireturn (dd TX11_settle_0 21 rfl) rfl
    · refine ok_iconst (v := (-1 : Int32)) (dd TX11_settle_0 8 rfl) (by decide) ?_
      exact ok_ireturn (dd TX11_settle_0 9 rfl) rfl
def F_X11_fill_L241 (k27 : Nat → Int32 → Int32 → Int32 → Int32 → Option Nat → Int32 → Int32 → M Int32) (this : Nat) (x1 : Int32) (x2 : Int32) (x3 : Int32) (x4 : Int32) (x6 : Option Nat) (x7 : Int32) (x8 : Int32) : M Int32 := k27 this x1 x2 x3 x4 x6 x7 (x8 + (1 : Int32))
set_option maxRecDepth 100000 in
theorem O_X11_fill_L241 (Γ : Gam) (k27 : Nat → Int32 → Int32 → Int32 → Int32 → Option Nat → Int32 → Int32 → M Int32) (hk27 : ∀ (z0 : Nat) (z1 : Int32) (z2 : Int32) (z3 : Int32) (z4 : Int32) (z6 : Option Nat) (z7 : Int32) (z8 : Int32), Ok Γ mX11_fill 8 (qo Γ vI) 27 [(0, va_rf (some z0)), (1, .int z1), (2, .int z2), (3, .int z3), (4, .int z4), (6, va_rf z6), (7, .int z7), (8, .int z8)] [] (k27 z0 z1 z2 z3 z4 z6 z7 z8)) (this : Nat) (x1 : Int32) (x2 : Int32) (x3 : Int32) (x4 : Int32) (x6 : Option Nat) (x7 : Int32) (x8 : Int32) : Ok Γ mX11_fill 8 (qo Γ vI) 241 [(0, va_rf (some this)), (1, .int x1), (2, .int x2), (3, .int x3), (4, .int x4), (6, va_rf x6), (7, .int x7), (8, .int x8)] [] (F_X11_fill_L241 k27 this x1 x2 x3 x4 x6 x7 x8) := by
  unfold F_X11_fill_L241
  refine ok_iinc (lv' := [(8, .int (x8 + (1 : Int32))), (0, va_rf (some this)), (1, .int x1), (2, .int x2), (3, .int x3), (4, .int x4), (6, va_rf x6), (7, .int x7)]) (dd TX11_fill_2 34 rfl) 7 rfl (congrArg (fun q : Int32 => x8 + q) (show Int32.ofInt (1) = (1 : Int32) from by decide)) (by decide) (by first | rfl | (simp only [List.filter, cat_rf]; rfl)) ?_
  refine ok_goto (tgt := 27) (dd TX11_fill_2 35 rfl) (by decide) ?_
  refine ok_sub [1, 2, 3, 4, 5, 6, 7, 0] rfl ?_
  exact hk27 this x1 x2 x3 x4 x6 x7 (x8 + (1 : Int32))
def F_X11_fill_L158 (k27 : Nat → Int32 → Int32 → Int32 → Int32 → Option Nat → Int32 → Int32 → M Int32) (this : Nat) (x1 : Int32) (x2 : Int32) (x3 : Int32) (x4 : Int32) (x6 : Option Nat) (x7 : Int32) (x8 : Int32) (x9 : Option Nat) (x11 : Int32) (x12 : Int32) (y0 : Int32) : M Int32 := bn (gP 11 4 (some this)) fun v17 => bn (newO 10 7) fun r18 => bn (gI 9 1 x9) fun v19 => bn (gI 11 8 (some this)) fun v20 => bn (pRc 10 r18) fun b21 => bn (F_X10_init b21 x3 v19 x11 x12 y0 v20) fun _ => bn (pRc 13 v17) fun b22 => bn (F_Jx4a65c_add_9ea2d b22 r18) fun v23 => bn (gI 9 1 x9) fun v24 => bn (pRc 11 (some this)) fun b25 => bn (F_X11_exchange b25 x12 y0 x3 x11 v24) fun _ => bn (gI 9 3 x9) fun v26 => bn (wI 9 3 x9 (v26 - x11)) fun _ => bn (gI 9 3 x9) fun v27 => if ¬ v27 = 0 then F_X11_fill_L241 k27 this x1 x2 x3 x4 x6 (x7 - x11) x8 else bn (pRc 13 x6) fun b28 => bn (F_Jx4a65c_remove_915e3 b28 (0 : Int32)) fun v29 => F_X11_fill_L241 k27 this x1 x2 x3 x4 x6 (x7 - x11) x8
set_option maxRecDepth 100000 in
theorem O_X11_fill_L158 (Γ : Gam) (k27 : Nat → Int32 → Int32 → Int32 → Int32 → Option Nat → Int32 → Int32 → M Int32) (hk27 : ∀ (z0 : Nat) (z1 : Int32) (z2 : Int32) (z3 : Int32) (z4 : Int32) (z6 : Option Nat) (z7 : Int32) (z8 : Int32), Ok Γ mX11_fill 8 (qo Γ vI) 27 [(0, va_rf (some z0)), (1, .int z1), (2, .int z2), (3, .int z3), (4, .int z4), (6, va_rf z6), (7, .int z7), (8, .int z8)] [] (k27 z0 z1 z2 z3 z4 z6 z7 z8)) (this : Nat) (x1 : Int32) (x2 : Int32) (x3 : Int32) (x4 : Int32) (x6 : Option Nat) (x7 : Int32) (x8 : Int32) (x9 : Option Nat) (x11 : Int32) (x12 : Int32) (y0 : Int32) : Ok Γ mX11_fill 8 (qo Γ vI) 158 [(0, va_rf (some this)), (1, .int x1), (2, .int x2), (3, .int x3), (4, .int x4), (6, va_rf x6), (7, .int x7), (8, .int x8), (9, va_rf x9), (11, .int x11), (12, .int x12)] [.int y0] (F_X11_fill_L158 k27 this x1 x2 x3 x4 x6 x7 x8 x9 x11 x12 y0) := by
  unfold F_X11_fill_L158
  refine ok_istore (lv' := [(13, .int y0), (0, va_rf (some this)), (1, .int x1), (2, .int x2), (3, .int x3), (4, .int x4), (6, va_rf x6), (7, .int x7), (8, .int x8), (9, va_rf x9), (11, .int x11), (12, .int x12)]) (dd TX11_fill_1 33 rfl) (by decide) (by first | rfl | (simp only [List.filter, cat_rf]; rfl)) ?_
  refine ok_aload_n (dd TX11_fill_1 34 rfl) 1 rfl ?_
  refine ok_gP fl_RX11_37 rfl (dd TX11_fill_1 35 rfl) (fun v17 => ?_)
  refine ok_newO cf_10 tyX10 tyX10_ok df_10 cl_RX11_157 ib_10 in_10 (dd TX11_fill_1 36 rfl) (fun r18 => ?_)
  refine ok_dup (dd TX11_fill_1 37 rfl) (by first | rfl | exact cat_rf _) ?_
  refine ok_iload_n (dd TX11_fill_1 38 rfl) 4 rfl ?_
  refine ok_aload (dd TX11_fill_1 39 rfl) 9 rfl ?_
  refine ok_gI fl_RX11_146 rfl (dd TX11_fill_2 0 rfl) (fun v19 => ?_)
  refine ok_iload (dd TX11_fill_2 1 rfl) 10 rfl ?_
  refine ok_iload (dd TX11_fill_2 2 rfl) 11 rfl ?_
  refine ok_iload (dd TX11_fill_2 3 rfl) 0 rfl ?_
  refine ok_aload_n (dd TX11_fill_2 4 rfl) 1 rfl ?_
  refine ok_gI fl_RX11_186 rfl (dd TX11_fill_2 5 rfl) (fun v20 => ?_)
  refine ok_callI (cn := 10) [.int x3, .int v19, .int x11, .int x12, .int y0, .int v20] [va_rf r18, va_rf v17] (fun b21 => C_X10_init Γ b21 x3 v19 x11 x12 y0 v20) cy_X10_init rfl rfl ml_RX11_388 im_X10_init (by decide) (Nat.le_of_ble_eq_true rfl) rfl (dd TX11_fill_2 6 rfl) ?_
  refine ok_callVI (cn := 13) [va_rf r18] [] (fun b22 => C_Jx4a65c_add_9ea2d Γ b22 r18) rfl cy_Jx4a65c_add_9ea2d ml_RX11_92 im_Jx4a65c_add_9ea2d se_Jx4a65c_add_9ea2d (by decide) (Nat.le_of_ble_eq_true rfl) rfl (dd TX11_fill_2 7 rfl) (fun v23 => ?_)
  refine ok_pop (dd TX11_fill_2 8 rfl) (by first | rfl | exact cat_rf _) ?_
  refine ok_aload_n (dd TX11_fill_2 9 rfl) 1 rfl ?_
  refine ok_iload (dd TX11_fill_2 10 rfl) 11 rfl ?_
  refine ok_iload (dd TX11_fill_2 11 rfl) 0 rfl ?_
  refine ok_iload_n (dd TX11_fill_2 12 rfl) 4 rfl ?_
  refine ok_iload (dd TX11_fill_2 13 rfl) 10 rfl ?_
  refine ok_aload (dd TX11_fill_2 14 rfl) 9 rfl ?_
  refine ok_gI fl_RX11_146 rfl (dd TX11_fill_2 15 rfl) (fun v24 => ?_)
  refine ok_callVV (cn := 11) [.int x12, .int y0, .int x3, .int x11, .int v24] [] (fun b25 => C_X11_exchange Γ b25 x12 y0 x3 x11 v24) rfl cy_X11_exchange ml_RX11_182 im_X11_exchange se_X11_exchange (by decide) (Nat.le_of_ble_eq_true rfl) rfl (dd TX11_fill_2 16 rfl) ?_
  refine ok_iload (dd TX11_fill_2 17 rfl) 7 rfl ?_
  refine ok_iload (dd TX11_fill_2 18 rfl) 10 rfl ?_
  refine ok_isub (dd TX11_fill_2 19 rfl) ?_
  refine ok_istore (lv' := [(7, .int (x7 - x11)), (13, .int y0), (0, va_rf (some this)), (1, .int x1), (2, .int x2), (3, .int x3), (4, .int x4), (6, va_rf x6), (8, .int x8), (9, va_rf x9), (11, .int x11), (12, .int x12)]) (dd TX11_fill_2 20 rfl) (by decide) (by first | rfl | (simp only [List.filter, cat_rf]; rfl)) ?_
  refine ok_aload (dd TX11_fill_2 21 rfl) 9 rfl ?_
  refine ok_dup (dd TX11_fill_2 22 rfl) (by first | rfl | exact cat_rf _) ?_
  refine ok_gI fl_RX11_149 rfl (dd TX11_fill_2 23 rfl) (fun v26 => ?_)
  refine ok_iload (dd TX11_fill_2 24 rfl) 10 rfl ?_
  refine ok_isub (dd TX11_fill_2 25 rfl) ?_
  refine ok_wI fl_RX11_149 (Or.inl rfl) (tyX9_ok 3 (by decide)) (by decide) rfl (dd TX11_fill_2 26 rfl) ?_
  refine ok_aload (dd TX11_fill_2 27 rfl) 9 rfl ?_
  refine ok_gI fl_RX11_149 rfl (dd TX11_fill_2 28 rfl) (fun v27 => ?_)
  refine ok_if_ne (tgt := 241) (dd TX11_fill_2 29 rfl) (by decide) ?_ ?_
  · refine ok_sub [2, 3, 4, 5, 6, 7, 0, 8] rfl ?_
    exact O_X11_fill_L241 Γ k27 hk27 this x1 x2 x3 x4 x6 (x7 - x11) x8
  · refine ok_aload (dd TX11_fill_2 30 rfl) 7 rfl ?_
    refine ok_iconst (v := (0 : Int32)) (dd TX11_fill_2 31 rfl) (by decide) ?_
    refine ok_callVR (cn := 13) [.int (0 : Int32)] [] (fun b28 => C_Jx4a65c_remove_915e3 Γ b28 (0 : Int32)) rfl cy_Jx4a65c_remove_915e3 ml_RX11_391 im_Jx4a65c_remove_915e3 se_Jx4a65c_remove_915e3 (by decide) (Nat.le_of_ble_eq_true rfl) rfl (dd TX11_fill_2 32 rfl) (fun v29 => ?_)
    refine ok_pop (dd TX11_fill_2 33 rfl) (by first | rfl | exact cat_rf _) ?_
    refine ok_sub [2, 3, 4, 5, 6, 7, 0, 8] rfl ?_
    exact O_X11_fill_L241 Γ k27 hk27 this x1 x2 x3 x4 x6 (x7 - x11) x8
def F_X11_fill_L143 (k27 : Nat → Int32 → Int32 → Int32 → Int32 → Option Nat → Int32 → Int32 → M Int32) (this : Nat) (x1 : Int32) (x2 : Int32) (x3 : Int32) (x4 : Int32) (x6 : Option Nat) (x7 : Int32) (x8 : Int32) (x9 : Option Nat) (x11 : Int32) (y0 : Int32) : M Int32 := if x2 = 0 then F_X11_fill_L158 k27 this x1 x2 x3 x4 x6 x7 x8 x9 x11 y0 x1 else bn (gI 9 0 x9) fun v16 => F_X11_fill_L158 k27 this x1 x2 x3 x4 x6 x7 x8 x9 x11 y0 v16
set_option maxRecDepth 100000 in
theorem O_X11_fill_L143 (Γ : Gam) (k27 : Nat → Int32 → Int32 → Int32 → Int32 → Option Nat → Int32 → Int32 → M Int32) (hk27 : ∀ (z0 : Nat) (z1 : Int32) (z2 : Int32) (z3 : Int32) (z4 : Int32) (z6 : Option Nat) (z7 : Int32) (z8 : Int32), Ok Γ mX11_fill 8 (qo Γ vI) 27 [(0, va_rf (some z0)), (1, .int z1), (2, .int z2), (3, .int z3), (4, .int z4), (6, va_rf z6), (7, .int z7), (8, .int z8)] [] (k27 z0 z1 z2 z3 z4 z6 z7 z8)) (this : Nat) (x1 : Int32) (x2 : Int32) (x3 : Int32) (x4 : Int32) (x6 : Option Nat) (x7 : Int32) (x8 : Int32) (x9 : Option Nat) (x11 : Int32) (y0 : Int32) : Ok Γ mX11_fill 8 (qo Γ vI) 143 [(0, va_rf (some this)), (1, .int x1), (2, .int x2), (3, .int x3), (4, .int x4), (6, va_rf x6), (7, .int x7), (8, .int x8), (9, va_rf x9), (11, .int x11)] [.int y0] (F_X11_fill_L143 k27 this x1 x2 x3 x4 x6 x7 x8 x9 x11 y0) := by
  unfold F_X11_fill_L143
  refine ok_istore (lv' := [(12, .int y0), (0, va_rf (some this)), (1, .int x1), (2, .int x2), (3, .int x3), (4, .int x4), (6, va_rf x6), (7, .int x7), (8, .int x8), (9, va_rf x9), (11, .int x11)]) (dd TX11_fill_1 26 rfl) (by decide) (by first | rfl | (simp only [List.filter, cat_rf]; rfl)) ?_
  refine ok_iload_n (dd TX11_fill_1 27 rfl) 3 rfl ?_
  refine ok_if_eq (tgt := 157) (dd TX11_fill_1 28 rfl) (by decide) ?_ ?_
  · refine ok_iload_n (dd TX11_fill_1 32 rfl) 2 rfl ?_
    refine ok_sub [1, 2, 3, 4, 5, 6, 7, 8, 9, 10, 0] rfl ?_
    exact O_X11_fill_L158 Γ k27 hk27 this x1 x2 x3 x4 x6 x7 x8 x9 x11 y0 x1
  · refine ok_aload (dd TX11_fill_1 29 rfl) 9 rfl ?_
    refine ok_gI fl_RX11_143 rfl (dd TX11_fill_1 30 rfl) (fun v16 => ?_)
    refine ok_goto (tgt := 158) (dd TX11_fill_1 31 rfl) (by decide) ?_
    refine ok_sub [1, 2, 3, 4, 5, 6, 7, 8, 9, 10, 0] rfl ?_
    exact O_X11_fill_L158 Γ k27 hk27 this x1 x2 x3 x4 x6 x7 x8 x9 x11 y0 v16
def F_X11_fill_L95 (k27 : Nat → Int32 → Int32 → Int32 → Int32 → Option Nat → Int32 → Int32 → M Int32) (this : Nat) (x1 : Int32) (x2 : Int32) (x3 : Int32) (x4 : Int32) (x6 : Option Nat) (x7 : Int32) (x8 : Int32) (x9 : Option Nat) (y0 : Int32) : M Int32 := if y0 = 0 then rt x7 else bn (gP 11 4 (some this)) fun v11 => bn (pRc 13 v11) fun b12 => bn (F_Jx4a65c_size_8abf5 b12) fun v13 => if v13 < (700 : Int32) then bn (gI 9 3 x9) fun v14 => if x2 = 0 then bn (gI 9 0 x9) fun v15 => F_X11_fill_L143 k27 this x1 x2 x3 x4 x6 x7 x8 x9 (if v14 < x7 then v14 else x7) v15 else F_X11_fill_L143 k27 this x1 x2 x3 x4 x6 x7 x8 x9 (if v14 < x7 then v14 else x7) x1 else rt x7
set_option maxRecDepth 100000 in
theorem O_X11_fill_L95 (Γ : Gam) (k27 : Nat → Int32 → Int32 → Int32 → Int32 → Option Nat → Int32 → Int32 → M Int32) (hk27 : ∀ (z0 : Nat) (z1 : Int32) (z2 : Int32) (z3 : Int32) (z4 : Int32) (z6 : Option Nat) (z7 : Int32) (z8 : Int32), Ok Γ mX11_fill 8 (qo Γ vI) 27 [(0, va_rf (some z0)), (1, .int z1), (2, .int z2), (3, .int z3), (4, .int z4), (6, va_rf z6), (7, .int z7), (8, .int z8)] [] (k27 z0 z1 z2 z3 z4 z6 z7 z8)) (this : Nat) (x1 : Int32) (x2 : Int32) (x3 : Int32) (x4 : Int32) (x6 : Option Nat) (x7 : Int32) (x8 : Int32) (x9 : Option Nat) (y0 : Int32) : Ok Γ mX11_fill 8 (qo Γ vI) 95 [(0, va_rf (some this)), (1, .int x1), (2, .int x2), (3, .int x3), (4, .int x4), (6, va_rf x6), (7, .int x7), (8, .int x8), (9, va_rf x9)] [.int y0] (F_X11_fill_L95 k27 this x1 x2 x3 x4 x6 x7 x8 x9 y0) := by
  unfold F_X11_fill_L95
  refine ok_istore (lv' := [(10, .int y0), (0, va_rf (some this)), (1, .int x1), (2, .int x2), (3, .int x3), (4, .int x4), (6, va_rf x6), (7, .int x7), (8, .int x8), (9, va_rf x9)]) (dd TX11_fill_1 5 rfl) (by decide) (by first | rfl | (simp only [List.filter, cat_rf]; rfl)) ?_
  refine ok_iload (dd TX11_fill_1 6 rfl) 0 rfl ?_
  refine ok_if_eq (tgt := 115) (dd TX11_fill_1 7 rfl) (by decide) ?_ ?_
  · refine ok_iload (dd TX11_fill_1 13 rfl) 7 rfl ?_
    exact ok_ireturn (dd TX11_fill_1 14 rfl) rfl
  · refine ok_aload_n (dd TX11_fill_1 8 rfl) 1 rfl ?_
    refine ok_gP fl_RX11_37 rfl (dd TX11_fill_1 9 rfl) (fun v11 => ?_)
    refine ok_callVI (cn := 13) [] [] (fun b12 => C_Jx4a65c_size_8abf5 Γ b12) rfl cy_Jx4a65c_size_8abf5 ml_RX11_85 im_Jx4a65c_size_8abf5 se_Jx4a65c_size_8abf5 (by decide) (Nat.le_of_ble_eq_true rfl) rfl (dd TX11_fill_1 10 rfl) (fun v13 => ?_)
    refine ok_sipush (v := (700 : Int32)) (dd TX11_fill_1 11 rfl) (by decide) ?_
    refine ok_icmp_lt (tgt := 118) (dd TX11_fill_1 12 rfl) (by decide) ?_ ?_
    · refine ok_iload (dd TX11_fill_1 15 rfl) 7 rfl ?_
      refine ok_aload (dd TX11_fill_1 16 rfl) 9 rfl ?_
      refine ok_gI fl_RX11_149 rfl (dd TX11_fill_1 17 rfl) (fun v14 => ?_)
      refine ok_mmin ml_RX11_385 ms_min w_mi mc_min (by decide) (Nat.le_of_ble_eq_true rfl) (dd TX11_fill_1 18 rfl) ?_
      refine ok_istore (lv' := [(11, .int (if v14 < x7 then v14 else x7)), (10, .int y0), (0, va_rf (some this)), (1, .int x1), (2, .int x2), (3, .int x3), (4, .int x4), (6, va_rf x6), (7, .int x7), (8, .int x8), (9, va_rf x9)]) (dd TX11_fill_1 19 rfl) (by decide) (by first | rfl | (simp only [List.filter, cat_rf]; rfl)) ?_
      refine ok_iload_n (dd TX11_fill_1 20 rfl) 4 rfl ?_
      refine ok_if_eq (tgt := 138) (dd TX11_fill_1 21 rfl) (by decide) ?_ ?_
      · refine ok_aload (dd TX11_fill_1 24 rfl) 10 rfl ?_
        refine ok_gI fl_RX11_143 rfl (dd TX11_fill_1 25 rfl) (fun v15 => ?_)
        refine ok_sub [2, 3, 4, 5, 6, 7, 8, 9, 10, 0] rfl ?_
        exact O_X11_fill_L143 Γ k27 hk27 this x1 x2 x3 x4 x6 x7 x8 x9 (if v14 < x7 then v14 else x7) v15
      · refine ok_iload_n (dd TX11_fill_1 22 rfl) 3 rfl ?_
        refine ok_goto (tgt := 143) (dd TX11_fill_1 23 rfl) (by decide) ?_
        refine ok_sub [2, 3, 4, 5, 6, 7, 8, 9, 10, 0] rfl ?_
        exact O_X11_fill_L143 Γ k27 hk27 this x1 x2 x3 x4 x6 x7 x8 x9 (if v14 < x7 then v14 else x7) x1
    · refine ok_iload (dd TX11_fill_1 13 rfl) 7 rfl ?_
      exact ok_ireturn (dd TX11_fill_1 14 rfl) rfl
def F_X11_fill_L27 : Nat → Nat → Int32 → Int32 → Int32 → Int32 → Option Nat → Int32 → Int32 → M Int32
  | 0 => fun _ _ _ _ _ _ _ _ => fl
  | n + 1 => fun this x1 x2 x3 x4 x6 x7 x8 => if (120 : Int32) ≤ x8 then rt x7 else if x7 ≤ 0 then rt x7 else bn (pRc 13 x6) fun b5 => bn (F_Jx4a65c_isEmpty_aae02 b5) fun v6 => if ¬ v6 = 0 then rt x7 else bn (pRc 13 x6) fun b7 => bn (F_Jx4a65c_get_915e3 b7 (0 : Int32)) fun v8 => bn (cst 9 v8) fun _ => if x2 = 0 then bn (gI 9 1 v8) fun v9 => if v9 < x4 then F_X11_fill_L95 (F_X11_fill_L27 n) this x1 x2 x3 x4 x6 x7 x8 v8 (0 : Int32) else F_X11_fill_L95 (F_X11_fill_L27 n) this x1 x2 x3 x4 x6 x7 x8 v8 (1 : Int32) else bn (gI 9 1 v8) fun v10 => if x4 < v10 then F_X11_fill_L95 (F_X11_fill_L27 n) this x1 x2 x3 x4 x6 x7 x8 v8 (0 : Int32) else F_X11_fill_L95 (F_X11_fill_L27 n) this x1 x2 x3 x4 x6 x7 x8 v8 (1 : Int32)
set_option maxRecDepth 100000 in
theorem O_X11_fill_L27 (Γ : Gam) (n : Nat) : ∀ (this : Nat) (x1 : Int32) (x2 : Int32) (x3 : Int32) (x4 : Int32) (x6 : Option Nat) (x7 : Int32) (x8 : Int32), Ok Γ mX11_fill 8 (qo Γ vI) 27 [(0, va_rf (some this)), (1, .int x1), (2, .int x2), (3, .int x3), (4, .int x4), (6, va_rf x6), (7, .int x7), (8, .int x8)] [] (F_X11_fill_L27 n this x1 x2 x3 x4 x6 x7 x8) := by
  induction n with
  | zero => intro this x1 x2 x3 x4 x6 x7 x8; exact ok_fl
  | succ n ih =>
    intro this x1 x2 x3 x4 x6 x7 x8
    rw [F_X11_fill_L27]
    refine ok_iload (dd TX11_fill_0 15 rfl) 7 rfl ?_
    refine ok_bipush (v := (120 : Int32)) (dd TX11_fill_0 16 rfl) (by decide) ?_
    refine ok_icmp_ge (tgt := 247) (dd TX11_fill_0 17 rfl) (by decide) ?_ ?_
    · refine ok_iload (dd TX11_fill_2 36 rfl) 6 rfl ?_
      exact ok_ireturn (dd TX11_fill_2 37 rfl) rfl
    · refine ok_iload (dd TX11_fill_0 18 rfl) 6 rfl ?_
      refine ok_if_le (tgt := 247) (dd TX11_fill_0 19 rfl) (by decide) ?_ ?_
      · refine ok_iload (dd TX11_fill_2 36 rfl) 6 rfl ?_
        exact ok_ireturn (dd TX11_fill_2 37 rfl) rfl
      · refine ok_aload (dd TX11_fill_0 20 rfl) 5 rfl ?_
        refine ok_callVI (cn := 13) [] [] (fun b5 => C_Jx4a65c_isEmpty_aae02 Γ b5) rfl cy_Jx4a65c_isEmpty_aae02 ml_RX11_271 im_Jx4a65c_isEmpty_aae02 se_Jx4a65c_isEmpty_aae02 (by decide) (Nat.le_of_ble_eq_true rfl) rfl (dd TX11_fill_0 21 rfl) (fun v6 => ?_)
        refine ok_if_ne (tgt := 247) (dd TX11_fill_0 22 rfl) (by decide) ?_ ?_
        · refine ok_iload (dd TX11_fill_2 36 rfl) 6 rfl ?_
          exact ok_ireturn (dd TX11_fill_2 37 rfl) rfl
        · refine ok_aload (dd TX11_fill_0 23 rfl) 5 rfl ?_
          refine ok_iconst (v := (0 : Int32)) (dd TX11_fill_0 24 rfl) (by decide) ?_
          refine ok_callVR (cn := 13) [.int (0 : Int32)] [] (fun b7 => C_Jx4a65c_get_915e3 Γ b7 (0 : Int32)) rfl cy_Jx4a65c_get_915e3 ml_RX11_139 im_Jx4a65c_get_915e3 se_Jx4a65c_get_915e3 (by decide) (Nat.le_of_ble_eq_true rfl) rfl (dd TX11_fill_0 25 rfl) (fun v8 => ?_)
          refine ok_cst (cn := 9) rfl cl_RX11_115 (dd TX11_fill_0 26 rfl) ?_
          refine ok_astore (lv' := [(9, va_rf v8), (0, va_rf (some this)), (1, .int x1), (2, .int x2), (3, .int x3), (4, .int x4), (6, va_rf x6), (7, .int x7), (8, .int x8)]) (dd TX11_fill_0 27 rfl) (by decide) (by first | rfl | (simp only [List.filter, cat_rf]; rfl)) ?_
          refine ok_iload_n (dd TX11_fill_0 28 rfl) 3 rfl ?_
          refine ok_if_eq (tgt := 80) (dd TX11_fill_0 29 rfl) (by decide) ?_ ?_
          · refine ok_aload (dd TX11_fill_0 38 rfl) 0 rfl ?_
            refine ok_gI fl_RX11_146 rfl (dd TX11_fill_0 39 rfl) (fun v9 => ?_)
            refine ok_iload (dd TX11_fill_1 0 rfl) 5 rfl ?_
            refine ok_icmp_lt (tgt := 94) (dd TX11_fill_1 1 rfl) (by decide) ?_ ?_
            · refine ok_iconst (v := (0 : Int32)) (dd TX11_fill_1 4 rfl) (by decide) ?_
              refine ok_sub [1, 2, 3, 4, 5, 6, 7, 8, 0] rfl ?_
              exact O_X11_fill_L95 Γ (F_X11_fill_L27 n) ih this x1 x2 x3 x4 x6 x7 x8 v8 (0 : Int32)
            · refine ok_iconst (v := (1 : Int32)) (dd TX11_fill_1 2 rfl) (by decide) ?_
              refine ok_goto (tgt := 95) (dd TX11_fill_1 3 rfl) (by decide) ?_
              refine ok_sub [1, 2, 3, 4, 5, 6, 7, 8, 0] rfl ?_
              exact O_X11_fill_L95 Γ (F_X11_fill_L27 n) ih this x1 x2 x3 x4 x6 x7 x8 v8 (1 : Int32)
          · refine ok_aload (dd TX11_fill_0 30 rfl) 0 rfl ?_
            refine ok_gI fl_RX11_146 rfl (dd TX11_fill_0 31 rfl) (fun v10 => ?_)
            refine ok_iload (dd TX11_fill_0 32 rfl) 5 rfl ?_
            refine ok_icmp_gt (tgt := 76) (dd TX11_fill_0 33 rfl) (by decide) ?_ ?_
            · refine ok_iconst (v := (0 : Int32)) (dd TX11_fill_0 36 rfl) (by decide) ?_
              refine ok_goto (tgt := 95) (dd TX11_fill_0 37 rfl) (by decide) ?_
              refine ok_sub [1, 2, 3, 4, 5, 6, 7, 8, 0] rfl ?_
              exact O_X11_fill_L95 Γ (F_X11_fill_L27 n) ih this x1 x2 x3 x4 x6 x7 x8 v8 (0 : Int32)
            · refine ok_iconst (v := (1 : Int32)) (dd TX11_fill_0 34 rfl) (by decide) ?_
              refine ok_goto (tgt := 95) (dd TX11_fill_0 35 rfl) (by decide) ?_
              refine ok_sub [1, 2, 3, 4, 5, 6, 7, 8, 0] rfl ?_
              exact O_X11_fill_L95 Γ (F_X11_fill_L27 n) ih this x1 x2 x3 x4 x6 x7 x8 v8 (1 : Int32)
def F_X11_fill_L15 (this : Nat) (x1 : Int32) (x2 : Int32) (x3 : Int32) (x4 : Int32) (x5 : Int32) (y0 : Int32) (y1 : Option Nat) : M Int32 := bn (pRc 2 y1) fun b3 => bn (F_X2_side b3 y0) fun v4 => F_X11_fill_L27 FU this x1 x2 x3 x4 v4 x5 (0 : Int32)
set_option maxRecDepth 100000 in
theorem O_X11_fill_L15 (Γ : Gam) (this : Nat) (x1 : Int32) (x2 : Int32) (x3 : Int32) (x4 : Int32) (x5 : Int32) (y0 : Int32) (y1 : Option Nat) : Ok Γ mX11_fill 8 (qo Γ vI) 15 [(0, va_rf (some this)), (1, .int x1), (2, .int x2), (3, .int x3), (4, .int x4), (5, .int x5)] [.int y0, va_rf y1] (F_X11_fill_L15 this x1 x2 x3 x4 x5 y0 y1) := by
  unfold F_X11_fill_L15
  refine ok_callVR (cn := 2) [.int y0] [] (fun b3 => C_X2_side Γ b3 y0) rfl cy_X2_side ml_RX11_135 im_X2_side se_X2_side (by decide) (Nat.le_of_ble_eq_true rfl) rfl (dd TX11_fill_0 9 rfl) (fun v4 => ?_)
  refine ok_astore (lv' := [(6, va_rf v4), (0, va_rf (some this)), (1, .int x1), (2, .int x2), (3, .int x3), (4, .int x4), (5, .int x5)]) (dd TX11_fill_0 10 rfl) (by decide) (by first | rfl | (simp only [List.filter, cat_rf]; rfl)) ?_
  refine ok_iload (dd TX11_fill_0 11 rfl) 6 rfl ?_
  refine ok_istore (lv' := [(7, .int x5), (6, va_rf v4), (0, va_rf (some this)), (1, .int x1), (2, .int x2), (3, .int x3), (4, .int x4), (5, .int x5)]) (dd TX11_fill_0 12 rfl) (by decide) (by first | rfl | (simp only [List.filter, cat_rf]; rfl)) ?_
  refine ok_iconst (v := (0 : Int32)) (dd TX11_fill_0 13 rfl) (by decide) ?_
  refine ok_istore (lv' := [(8, .int (0 : Int32)), (7, .int x5), (6, va_rf v4), (0, va_rf (some this)), (1, .int x1), (2, .int x2), (3, .int x3), (4, .int x4), (5, .int x5)]) (dd TX11_fill_0 14 rfl) (by decide) (by first | rfl | (simp only [List.filter, cat_rf]; rfl)) ?_
  refine ok_sub [3, 4, 5, 6, 7, 2, 1, 0] rfl ?_
  exact O_X11_fill_L27 Γ FU this x1 x2 x3 x4 v4 x5 (0 : Int32)
def F_X11_fill (this : Nat) (p0 : Int32) (p1 : Int32) (p2 : Int32) (p3 : Int32) (p4 : Int32) : M Int32 := bn (gP 11 2 (some this)) fun v1 => bn (lP 157 v1 p2) fun v2 => if ¬ p1 = 0 then F_X11_fill_L15 this p0 p1 p2 p3 p4 (0 : Int32) v2 else F_X11_fill_L15 this p0 p1 p2 p3 p4 (1 : Int32) v2
set_option maxRecDepth 100000 in
theorem C_X11_fill (Γ : Gam) (this : Nat) (p0 : Int32) (p1 : Int32) (p2 : Int32) (p3 : Int32) (p4 : Int32) : Ct Γ mX11_fill 8 vI [va_rf (some this), .int p0, .int p1, .int p2, .int p3, .int p4] (F_X11_fill this p0 p1 p2 p3 p4) := by
  refine ct_in (lv := [(0, va_rf (some this)), (1, .int p0), (2, .int p1), (3, .int p2), (4, .int p3), (5, .int p4)]) (by decide) (by first | rfl | (simp only [lv_args, cat_rf]; rfl)) (by first | exact Nat.le_of_ble_eq_true rfl | (rw [lg_len]; simp only [List.map_cons, List.map_nil, cat_rf]; exact Nat.le_of_ble_eq_true rfl)) ?_
  unfold F_X11_fill
  refine ok_aload_n (dd TX11_fill_0 0 rfl) 0 rfl ?_
  refine ok_gP fl_RX11_25 rfl (dd TX11_fill_0 1 rfl) (fun v1 => ?_)
  refine ok_iload_n (dd TX11_fill_0 2 rfl) 3 rfl ?_
  refine ok_lP5 (kd := 157) (by decide) rfl (dd TX11_fill_0 3 rfl) (fun v2 => ?_)
  refine ok_iload_n (dd TX11_fill_0 4 rfl) 2 rfl ?_
  refine ok_if_ne (tgt := 14) (dd TX11_fill_0 5 rfl) (by decide) ?_ ?_
  · refine ok_iconst (v := (0 : Int32)) (dd TX11_fill_0 8 rfl) (by decide) ?_
    exact O_X11_fill_L15 Γ this p0 p1 p2 p3 p4 (0 : Int32) v2
  · refine ok_iconst (v := (1 : Int32)) (dd TX11_fill_0 6 rfl) (by decide) ?_
    refine ok_goto (tgt := 15) (dd TX11_fill_0 7 rfl) (by decide) ?_
    exact O_X11_fill_L15 Γ this p0 p1 p2 p3 p4 (1 : Int32) v2
def F_X11_closeOut_L105 (k18 : Nat → Int32 → Option Nat → Int32 → M Unit) (k64 : Nat → Int32 → Option Nat → Int32 → Int32 → Int32 → Int32 → Int32 → Int32 → M Unit) (this : Nat) (x1 : Int32) (x2 : Option Nat) (x3 : Int32) (x4 : Int32) (x5 : Int32) (x6 : Int32) (x7 : Int32) (x8 : Int32) (y0 : Int32) (y1 : Int32) (y2 : Option Nat) : M Unit := bn (pRc 11 y2) fun b11 => bn (F_X11_exchange b11 y1 y0 x3 (1 : Int32) x6) fun _ => k64 this x1 x2 x3 x4 x5 x6 x7 (x8 + (1 : Int32))
set_option maxRecDepth 100000 in
theorem O_X11_closeOut_L105 (Γ : Gam) (k18 : Nat → Int32 → Option Nat → Int32 → M Unit) (hk18 : ∀ (z0 : Nat) (z1 : Int32) (z2 : Option Nat) (z3 : Int32), Ok Γ mX11_closeOut 8 (qo Γ vV) 18 [(0, va_rf (some z0)), (1, .int z1), (2, va_rf z2), (3, .int z3)] [] (k18 z0 z1 z2 z3)) (k64 : Nat → Int32 → Option Nat → Int32 → Int32 → Int32 → Int32 → Int32 → Int32 → M Unit) (hk64 : ∀ (z0 : Nat) (z1 : Int32) (z2 : Option Nat) (z3 : Int32) (z4 : Int32) (z5 : Int32) (z6 : Int32) (z7 : Int32) (z8 : Int32), Ok Γ mX11_closeOut 8 (qo Γ vV) 64 [(0, va_rf (some z0)), (1, .int z1), (2, va_rf z2), (3, .int z3), (4, .int z4), (5, .int z5), (6, .int z6), (7, .int z7), (8, .int z8)] [] (k64 z0 z1 z2 z3 z4 z5 z6 z7 z8)) (this : Nat) (x1 : Int32) (x2 : Option Nat) (x3 : Int32) (x4 : Int32) (x5 : Int32) (x6 : Int32) (x7 : Int32) (x8 : Int32) (y0 : Int32) (y1 : Int32) (y2 : Option Nat) : Ok Γ mX11_closeOut 8 (qo Γ vV) 105 [(0, va_rf (some this)), (1, .int x1), (2, va_rf x2), (3, .int x3), (4, .int x4), (5, .int x5), (6, .int x6), (7, .int x7), (8, .int x8)] [.int y0, .int y1, va_rf y2] (F_X11_closeOut_L105 k18 k64 this x1 x2 x3 x4 x5 x6 x7 x8 y0 y1 y2) := by
  unfold F_X11_closeOut_L105
  refine ok_iload_n (dd TX11_closeOut_1 18 rfl) 3 rfl ?_
  refine ok_iconst (v := (1 : Int32)) (dd TX11_closeOut_1 19 rfl) (by decide) ?_
  refine ok_iload (dd TX11_closeOut_1 20 rfl) 6 rfl ?_
  refine ok_callVV (cn := 11) [.int y1, .int y0, .int x3, .int (1 : Int32), .int x6] [] (fun b11 => C_X11_exchange Γ b11 y1 y0 x3 (1 : Int32) x6) rfl cy_X11_exchange ml_RX11_182 im_X11_exchange se_X11_exchange (by decide) (Nat.le_of_ble_eq_true rfl) rfl (dd TX11_closeOut_1 21 rfl) ?_
  refine ok_iinc (lv' := [(8, .int (x8 + (1 : Int32))), (0, va_rf (some this)), (1, .int x1), (2, va_rf x2), (3, .int x3), (4, .int x4), (5, .int x5), (6, .int x6), (7, .int x7)]) (dd TX11_closeOut_1 22 rfl) 8 rfl (congrArg (fun q : Int32 => x8 + q) (show Int32.ofInt (1) = (1 : Int32) from by decide)) (by decide) (by first | rfl | (simp only [List.filter, cat_rf]; rfl)) ?_
  refine ok_goto (tgt := 64) (dd TX11_closeOut_1 23 rfl) (by decide) ?_
  refine ok_sub [1, 2, 3, 4, 5, 6, 7, 8, 0] rfl ?_
  exact hk64 this x1 x2 x3 x4 x5 x6 x7 (x8 + (1 : Int32))
def F_X11_closeOut_L94 (k18 : Nat → Int32 → Option Nat → Int32 → M Unit) (k64 : Nat → Int32 → Option Nat → Int32 → Int32 → Int32 → Int32 → Int32 → Int32 → M Unit) (this : Nat) (x1 : Int32) (x2 : Option Nat) (x3 : Int32) (x4 : Int32) (x5 : Int32) (x6 : Int32) (x7 : Int32) (x8 : Int32) (y0 : Int32) (y1 : Option Nat) : M Unit := if x4 = 0 then F_X11_closeOut_L105 k18 k64 this x1 x2 x3 x4 x5 x6 x7 x8 x7 y0 y1 else F_X11_closeOut_L105 k18 k64 this x1 x2 x3 x4 x5 x6 x7 x8 x1 y0 y1
set_option maxRecDepth 100000 in
theorem O_X11_closeOut_L94 (Γ : Gam) (k18 : Nat → Int32 → Option Nat → Int32 → M Unit) (hk18 : ∀ (z0 : Nat) (z1 : Int32) (z2 : Option Nat) (z3 : Int32), Ok Γ mX11_closeOut 8 (qo Γ vV) 18 [(0, va_rf (some z0)), (1, .int z1), (2, va_rf z2), (3, .int z3)] [] (k18 z0 z1 z2 z3)) (k64 : Nat → Int32 → Option Nat → Int32 → Int32 → Int32 → Int32 → Int32 → Int32 → M Unit) (hk64 : ∀ (z0 : Nat) (z1 : Int32) (z2 : Option Nat) (z3 : Int32) (z4 : Int32) (z5 : Int32) (z6 : Int32) (z7 : Int32) (z8 : Int32), Ok Γ mX11_closeOut 8 (qo Γ vV) 64 [(0, va_rf (some z0)), (1, .int z1), (2, va_rf z2), (3, .int z3), (4, .int z4), (5, .int z5), (6, .int z6), (7, .int z7), (8, .int z8)] [] (k64 z0 z1 z2 z3 z4 z5 z6 z7 z8)) (this : Nat) (x1 : Int32) (x2 : Option Nat) (x3 : Int32) (x4 : Int32) (x5 : Int32) (x6 : Int32) (x7 : Int32) (x8 : Int32) (y0 : Int32) (y1 : Option Nat) : Ok Γ mX11_closeOut 8 (qo Γ vV) 94 [(0, va_rf (some this)), (1, .int x1), (2, va_rf x2), (3, .int x3), (4, .int x4), (5, .int x5), (6, .int x6), (7, .int x7), (8, .int x8)] [.int y0, va_rf y1] (F_X11_closeOut_L94 k18 k64 this x1 x2 x3 x4 x5 x6 x7 x8 y0 y1) := by
  unfold F_X11_closeOut_L94
  refine ok_iload (dd TX11_closeOut_1 13 rfl) 4 rfl ?_
  refine ok_if_eq (tgt := 103) (dd TX11_closeOut_1 14 rfl) (by decide) ?_ ?_
  · refine ok_iload (dd TX11_closeOut_1 17 rfl) 7 rfl ?_
    exact O_X11_closeOut_L105 Γ k18 hk18 k64 hk64 this x1 x2 x3 x4 x5 x6 x7 x8 x7 y0 y1
  · refine ok_iload_n (dd TX11_closeOut_1 15 rfl) 1 rfl ?_
    refine ok_goto (tgt := 105) (dd TX11_closeOut_1 16 rfl) (by decide) ?_
    exact O_X11_closeOut_L105 Γ k18 hk18 k64 hk64 this x1 x2 x3 x4 x5 x6 x7 x8 x1 y0 y1
def F_X11_closeOut_L64 (k18 : Nat → Int32 → Option Nat → Int32 → M Unit) : Nat → Nat → Int32 → Option Nat → Int32 → Int32 → Int32 → Int32 → Int32 → Int32 → M Unit
  | 0 => fun _ _ _ _ _ _ _ _ _ => fl
  | n + 1 => fun this x1 x2 x3 x4 x5 x6 x7 x8 => if x5 ≤ x8 then k18 this x1 x2 (x3 + (1 : Int32)) else bn (pRc 11 (some this)) fun b9 => bn (F_X11_nextOpposite b9 x7 x3 x4) fun v10 => if x4 = 0 then F_X11_closeOut_L94 k18 (F_X11_closeOut_L64 k18 n) this x1 x2 x3 x4 x5 x6 v10 x8 x1 (some this) else F_X11_closeOut_L94 k18 (F_X11_closeOut_L64 k18 n) this x1 x2 x3 x4 x5 x6 v10 x8 v10 (some this)
set_option maxRecDepth 100000 in
theorem O_X11_closeOut_L64 (Γ : Gam) (k18 : Nat → Int32 → Option Nat → Int32 → M Unit) (hk18 : ∀ (z0 : Nat) (z1 : Int32) (z2 : Option Nat) (z3 : Int32), Ok Γ mX11_closeOut 8 (qo Γ vV) 18 [(0, va_rf (some z0)), (1, .int z1), (2, va_rf z2), (3, .int z3)] [] (k18 z0 z1 z2 z3)) (n : Nat) : ∀ (this : Nat) (x1 : Int32) (x2 : Option Nat) (x3 : Int32) (x4 : Int32) (x5 : Int32) (x6 : Int32) (x7 : Int32) (x8 : Int32), Ok Γ mX11_closeOut 8 (qo Γ vV) 64 [(0, va_rf (some this)), (1, .int x1), (2, va_rf x2), (3, .int x3), (4, .int x4), (5, .int x5), (6, .int x6), (7, .int x7), (8, .int x8)] [] (F_X11_closeOut_L64 k18 n this x1 x2 x3 x4 x5 x6 x7 x8) := by
  induction n with
  | zero => intro this x1 x2 x3 x4 x5 x6 x7 x8; exact ok_fl
  | succ n ih =>
    intro this x1 x2 x3 x4 x5 x6 x7 x8
    rw [F_X11_closeOut_L64]
    refine ok_iload (dd TX11_closeOut_0 38 rfl) 8 rfl ?_
    refine ok_iload (dd TX11_closeOut_0 39 rfl) 5 rfl ?_
    refine ok_icmp_ge (tgt := 118) (dd TX11_closeOut_1 0 rfl) (by decide) ?_ ?_
    · refine ok_iinc (lv' := [(3, .int (x3 + (1 : Int32))), (0, va_rf (some this)), (1, .int x1), (2, va_rf x2), (4, .int x4), (5, .int x5), (6, .int x6), (7, .int x7), (8, .int x8)]) (dd TX11_closeOut_1 24 rfl) 3 rfl (congrArg (fun q : Int32 => x3 + q) (show Int32.ofInt (1) = (1 : Int32) from by decide)) (by decide) (by first | rfl | (simp only [List.filter, cat_rf]; rfl)) ?_
      refine ok_goto (tgt := 18) (dd TX11_closeOut_1 25 rfl) (by decide) ?_
      refine ok_sub [1, 2, 3, 0] rfl ?_
      exact hk18 this x1 x2 (x3 + (1 : Int32))
    · refine ok_aload_n (dd TX11_closeOut_1 1 rfl) 0 rfl ?_
      refine ok_iload (dd TX11_closeOut_1 2 rfl) 7 rfl ?_
      refine ok_iload_n (dd TX11_closeOut_1 3 rfl) 3 rfl ?_
      refine ok_iload (dd TX11_closeOut_1 4 rfl) 4 rfl ?_
      refine ok_callVI (cn := 11) [.int x7, .int x3, .int x4] [] (fun b9 => C_X11_nextOpposite Γ b9 x7 x3 x4) rfl cy_X11_nextOpposite ml_RX11_401 im_X11_nextOpposite se_X11_nextOpposite (by decide) (Nat.le_of_ble_eq_true rfl) rfl (dd TX11_closeOut_1 5 rfl) (fun v10 => ?_)
      refine ok_istore (lv' := [(7, .int v10), (0, va_rf (some this)), (1, .int x1), (2, va_rf x2), (3, .int x3), (4, .int x4), (5, .int x5), (6, .int x6), (8, .int x8)]) (dd TX11_closeOut_1 6 rfl) (by decide) (by first | rfl | (simp only [List.filter, cat_rf]; rfl)) ?_
      refine ok_aload_n (dd TX11_closeOut_1 7 rfl) 1 rfl ?_
      refine ok_iload (dd TX11_closeOut_1 8 rfl) 5 rfl ?_
      refine ok_if_eq (tgt := 93) (dd TX11_closeOut_1 9 rfl) (by decide) ?_ ?_
      · refine ok_iload_n (dd TX11_closeOut_1 12 rfl) 2 rfl ?_
        refine ok_sub [1, 2, 3, 4, 5, 6, 7, 0, 8] rfl ?_
        exact O_X11_closeOut_L94 Γ k18 hk18 (F_X11_closeOut_L64 k18 n) ih this x1 x2 x3 x4 x5 x6 v10 x8 x1 (some this)
      · refine ok_iload (dd TX11_closeOut_1 10 rfl) 0 rfl ?_
        refine ok_goto (tgt := 94) (dd TX11_closeOut_1 11 rfl) (by decide) ?_
        refine ok_sub [1, 2, 3, 4, 5, 6, 7, 0, 8] rfl ?_
        exact O_X11_closeOut_L94 Γ k18 hk18 (F_X11_closeOut_L64 k18 n) ih this x1 x2 x3 x4 x5 x6 v10 x8 v10 (some this)
def F_X11_closeOut_L38 (k18 : Nat → Int32 → Option Nat → Int32 → M Unit) (this : Nat) (x1 : Int32) (x2 : Option Nat) (x3 : Int32) (y0 : Int32) : M Unit := bn (gP 1 0 x2) fun v5 => bn (lI 104 v5 x3) fun v6 => bn (pRc 11 (some this)) fun b7 => bn (F_X11_latestPrice b7 x3) fun v8 => F_X11_closeOut_L64 k18 FU this x1 x2 x3 y0 (if 0 ≤ v6 then v6 else 0 - v6) v8 x1 (0 : Int32)
set_option maxRecDepth 100000 in
theorem O_X11_closeOut_L38 (Γ : Gam) (k18 : Nat → Int32 → Option Nat → Int32 → M Unit) (hk18 : ∀ (z0 : Nat) (z1 : Int32) (z2 : Option Nat) (z3 : Int32), Ok Γ mX11_closeOut 8 (qo Γ vV) 18 [(0, va_rf (some z0)), (1, .int z1), (2, va_rf z2), (3, .int z3)] [] (k18 z0 z1 z2 z3)) (this : Nat) (x1 : Int32) (x2 : Option Nat) (x3 : Int32) (y0 : Int32) : Ok Γ mX11_closeOut 8 (qo Γ vV) 38 [(0, va_rf (some this)), (1, .int x1), (2, va_rf x2), (3, .int x3)] [.int y0] (F_X11_closeOut_L38 k18 this x1 x2 x3 y0) := by
  unfold F_X11_closeOut_L38
  refine ok_istore (lv' := [(4, .int y0), (0, va_rf (some this)), (1, .int x1), (2, va_rf x2), (3, .int x3)]) (dd TX11_closeOut_0 23 rfl) (by decide) (by first | rfl | (simp only [List.filter, cat_rf]; rfl)) ?_
  refine ok_aload_n (dd TX11_closeOut_0 24 rfl) 3 rfl ?_
  refine ok_gP fl_RX11_240 rfl (dd TX11_closeOut_0 25 rfl) (fun v5 => ?_)
  refine ok_iload_n (dd TX11_closeOut_0 26 rfl) 4 rfl ?_
  refine ok_lI (kd := 104) (by decide) rfl (dd TX11_closeOut_0 27 rfl) (fun v6 => ?_)
  refine ok_mabs ml_RX11_370 ms_abs w_mi mc_abs (by decide) (Nat.le_of_ble_eq_true rfl) (dd TX11_closeOut_0 28 rfl) ?_
  refine ok_istore (lv' := [(5, .int (if 0 ≤ v6 then v6 else 0 - v6)), (4, .int y0), (0, va_rf (some this)), (1, .int x1), (2, va_rf x2), (3, .int x3)]) (dd TX11_closeOut_0 29 rfl) (by decide) (by first | rfl | (simp only [List.filter, cat_rf]; rfl)) ?_
  refine ok_aload_n (dd TX11_closeOut_0 30 rfl) 2 rfl ?_
  refine ok_iload_n (dd TX11_closeOut_0 31 rfl) 5 rfl ?_
  refine ok_callVI (cn := 11) [.int x3] [] (fun b7 => C_X11_latestPrice Γ b7 x3) rfl cy_X11_latestPrice ml_RX11_268 im_X11_latestPrice se_X11_latestPrice (by decide) (Nat.le_of_ble_eq_true rfl) rfl (dd TX11_closeOut_0 32 rfl) (fun v8 => ?_)
  refine ok_istore (lv' := [(6, .int v8), (5, .int (if 0 ≤ v6 then v6 else 0 - v6)), (4, .int y0), (0, va_rf (some this)), (1, .int x1), (2, va_rf x2), (3, .int x3)]) (dd TX11_closeOut_0 33 rfl) (by decide) (by first | rfl | (simp only [List.filter, cat_rf]; rfl)) ?_
  refine ok_iload_n (dd TX11_closeOut_0 34 rfl) 4 rfl ?_
  refine ok_istore (lv' := [(7, .int x1), (6, .int v8), (5, .int (if 0 ≤ v6 then v6 else 0 - v6)), (4, .int y0), (0, va_rf (some this)), (1, .int x1), (2, va_rf x2), (3, .int x3)]) (dd TX11_closeOut_0 35 rfl) (by decide) (by first | rfl | (simp only [List.filter, cat_rf]; rfl)) ?_
  refine ok_iconst (v := (0 : Int32)) (dd TX11_closeOut_0 36 rfl) (by decide) ?_
  refine ok_istore (lv' := [(8, .int (0 : Int32)), (7, .int x1), (6, .int v8), (5, .int (if 0 ≤ v6 then v6 else 0 - v6)), (4, .int y0), (0, va_rf (some this)), (1, .int x1), (2, va_rf x2), (3, .int x3)]) (dd TX11_closeOut_0 37 rfl) (by decide) (by first | rfl | (simp only [List.filter, cat_rf]; rfl)) ?_
  refine ok_sub [5, 6, 7, 8, 4, 3, 2, 1, 0] rfl ?_
  exact O_X11_closeOut_L64 Γ k18 hk18 FU this x1 x2 x3 y0 (if 0 ≤ v6 then v6 else 0 - v6) v8 x1 (0 : Int32)
def F_X11_closeOut_L18 : Nat → Nat → Int32 → Option Nat → Int32 → M Unit
  | 0 => fun _ _ _ _ => fl
  | n + 1 => fun this x1 x2 x3 => if (6 : Int32) ≤ x3 then rt () else bn (gP 1 0 x2) fun v3 => bn (lI 104 v3 x3) fun v4 => if v4 ≤ 0 then F_X11_closeOut_L38 (F_X11_closeOut_L18 n) this x1 x2 x3 (0 : Int32) else F_X11_closeOut_L38 (F_X11_closeOut_L18 n) this x1 x2 x3 (1 : Int32)
set_option maxRecDepth 100000 in
theorem O_X11_closeOut_L18 (Γ : Gam) (n : Nat) : ∀ (this : Nat) (x1 : Int32) (x2 : Option Nat) (x3 : Int32), Ok Γ mX11_closeOut 8 (qo Γ vV) 18 [(0, va_rf (some this)), (1, .int x1), (2, va_rf x2), (3, .int x3)] [] (F_X11_closeOut_L18 n this x1 x2 x3) := by
  induction n with
  | zero => intro this x1 x2 x3; exact ok_fl
  | succ n ih =>
    intro this x1 x2 x3
    rw [F_X11_closeOut_L18]
    refine ok_iload_n (dd TX11_closeOut_0 12 rfl) 3 rfl ?_
    refine ok_bipush (v := (6 : Int32)) (dd TX11_closeOut_0 13 rfl) (by decide) ?_
    refine ok_icmp_ge (tgt := 124) (dd TX11_closeOut_0 14 rfl) (by decide) ?_ ?_
    · exact ok_return (dd TX11_closeOut_1 26 rfl) rfl
    · refine ok_aload_n (dd TX11_closeOut_0 15 rfl) 2 rfl ?_
      refine ok_gP fl_RX11_240 rfl (dd TX11_closeOut_0 16 rfl) (fun v3 => ?_)
      refine ok_iload_n (dd TX11_closeOut_0 17 rfl) 3 rfl ?_
      refine ok_lI (kd := 104) (by decide) rfl (dd TX11_closeOut_0 18 rfl) (fun v4 => ?_)
      refine ok_if_le (tgt := 37) (dd TX11_closeOut_0 19 rfl) (by decide) ?_ ?_
      · refine ok_iconst (v := (0 : Int32)) (dd TX11_closeOut_0 22 rfl) (by decide) ?_
        exact O_X11_closeOut_L38 Γ (F_X11_closeOut_L18 n) ih this x1 x2 x3 (0 : Int32)
      · refine ok_iconst (v := (1 : Int32)) (dd TX11_closeOut_0 20 rfl) (by decide) ?_
        refine ok_goto (tgt := 38) (dd TX11_closeOut_0 21 rfl) (by decide) ?_
        exact O_X11_closeOut_L38 Γ (F_X11_closeOut_L18 n) ih this x1 x2 x3 (1 : Int32)
def F_X11_closeOut (this : Nat) (p0 : Int32) : M Unit := bn (pRc 11 (some this)) fun b1 => bn (F_X11_memberOf b1 p0) fun v2 => if ¬ v2 = none then bn (wZ 1 4 v2 (1 : Int32)) fun _ => F_X11_closeOut_L18 FU this p0 v2 (0 : Int32) else rt ()
set_option maxRecDepth 100000 in
theorem C_X11_closeOut (Γ : Gam) (this : Nat) (p0 : Int32) : Ct Γ mX11_closeOut 8 vV [va_rf (some this), .int p0] (F_X11_closeOut this p0) := by
  refine ct_in (lv := [(0, va_rf (some this)), (1, .int p0)]) (by decide) (by first | rfl | (simp only [lv_args, cat_rf]; rfl)) (by first | exact Nat.le_of_ble_eq_true rfl | (rw [lg_len]; simp only [List.map_cons, List.map_nil, cat_rf]; exact Nat.le_of_ble_eq_true rfl)) ?_
  unfold F_X11_closeOut
  refine ok_aload_n (dd TX11_closeOut_0 0 rfl) 0 rfl ?_
  refine ok_iload_n (dd TX11_closeOut_0 1 rfl) 1 rfl ?_
  refine ok_callVR (cn := 11) [.int p0] [] (fun b1 => C_X11_memberOf Γ b1 p0) rfl cy_X11_memberOf ml_RX11_96 im_X11_memberOf se_X11_memberOf (by decide) (Nat.le_of_ble_eq_true rfl) rfl (dd TX11_closeOut_0 2 rfl) (fun v2 => ?_)
  refine ok_astore_n (lv' := [(2, va_rf v2), (0, va_rf (some this)), (1, .int p0)]) (dd TX11_closeOut_0 3 rfl) (by decide) (by first | rfl | (simp only [List.filter, cat_rf]; rfl)) ?_
  refine ok_aload_n (dd TX11_closeOut_0 4 rfl) 0 rfl ?_
  refine ok_ifnonnull (tgt := 11) (dd TX11_closeOut_0 5 rfl) (by decide) ?_ ?_
  · refine ok_aload_n (dd TX11_closeOut_0 7 rfl) 0 rfl ?_
    refine ok_iconst (v := (1 : Int32)) (dd TX11_closeOut_0 8 rfl) (by decide) ?_
    refine ok_wZ fl_RX11_228 (Or.inl rfl) (tyX1_ok 4 (by decide)) (by decide) rfl (dd TX11_closeOut_0 9 rfl) ?_
    refine ok_iconst (v := (0 : Int32)) (dd TX11_closeOut_0 10 rfl) (by decide) ?_
    refine ok_istore_n (lv' := [(3, .int (0 : Int32)), (2, va_rf v2), (0, va_rf (some this)), (1, .int p0)]) (dd TX11_closeOut_0 11 rfl) (by decide) (by first | rfl | (simp only [List.filter, cat_rf]; rfl)) ?_
    refine ok_sub [2, 3, 1, 0] rfl ?_
    exact O_X11_closeOut_L18 Γ FU this p0 v2 (0 : Int32)
  · exact ok_return (dd TX11_closeOut_0 6 rfl) rfl
def F_X12_readRule_L17 (this : Nat) : M Int32 := bn (pRc 12 (some this)) fun b33 => bn (F_X12_fails b33 (2 : Int32)) fun v34 => rz v34
set_option maxRecDepth 100000 in
theorem O_X12_readRule_L17 (Γ : Gam) (this : Nat) : Ok Γ mX12_readRule 108 (qo Γ vI) 17 [(0, va_rf (some this))] [] (F_X12_readRule_L17 this) := by
  unfold F_X12_readRule_L17
  refine ok_aload_n (dd TX12_readRule_0 8 rfl) 0 rfl ?_
  refine ok_iconst (v := (2 : Int32)) (dd TX12_readRule_0 9 rfl) (by decide) ?_
  refine ok_callVI (cn := 12) [.int (2 : Int32)] [] (fun b33 => C_X12_fails Γ b33 (2 : Int32)) rfl cy_X12_fails ml_RX12_165 im_X12_fails se_X12_fails (by decide) (Nat.le_of_ble_eq_true rfl) rfl (dd TX12_readRule_0 10 rfl) (fun v34 => ?_)
  exact ok_zreturn (dd TX12_readRule_0 11 rfl) rfl
def F_X12_readRule_L72 (this : Nat) : M Int32 := bn (pRc 12 (some this)) fun b35 => bn (F_X12_fails b35 (2 : Int32)) fun v36 => rz v36
set_option maxRecDepth 100000 in
theorem O_X12_readRule_L72 (Γ : Gam) (this : Nat) : Ok Γ mX12_readRule 108 (qo Γ vI) 72 [(0, va_rf (some this))] [] (F_X12_readRule_L72 this) := by
  unfold F_X12_readRule_L72
  refine ok_aload_n (dd TX12_readRule_0 37 rfl) 0 rfl ?_
  refine ok_iconst (v := (2 : Int32)) (dd TX12_readRule_0 38 rfl) (by decide) ?_
  refine ok_callVI (cn := 12) [.int (2 : Int32)] [] (fun b35 => C_X12_fails Γ b35 (2 : Int32)) rfl cy_X12_fails ml_RX12_165 im_X12_fails se_X12_fails (by decide) (Nat.le_of_ble_eq_true rfl) rfl (dd TX12_readRule_0 39 rfl) (fun v36 => ?_)
  exact ok_zreturn (dd TX12_readRule_1 0 rfl) rfl
def F_X12_readRule_L100 (this : Nat) : M Int32 := bn (pRc 12 (some this)) fun b37 => bn (F_X12_fails b37 (2 : Int32)) fun v38 => rz v38
set_option maxRecDepth 100000 in
theorem O_X12_readRule_L100 (Γ : Gam) (this : Nat) : Ok Γ mX12_readRule 108 (qo Γ vI) 100 [(0, va_rf (some this))] [] (F_X12_readRule_L100 this) := by
  unfold F_X12_readRule_L100
  refine ok_aload_n (dd TX12_readRule_1 11 rfl) 0 rfl ?_
  refine ok_iconst (v := (2 : Int32)) (dd TX12_readRule_1 12 rfl) (by decide) ?_
  refine ok_callVI (cn := 12) [.int (2 : Int32)] [] (fun b37 => C_X12_fails Γ b37 (2 : Int32)) rfl cy_X12_fails ml_RX12_165 im_X12_fails se_X12_fails (by decide) (Nat.le_of_ble_eq_true rfl) rfl (dd TX12_readRule_1 13 rfl) (fun v38 => ?_)
  exact ok_zreturn (dd TX12_readRule_1 14 rfl) rfl
def F_X12_readRule_L140 (this : Nat) : M Int32 := bn (pRc 12 (some this)) fun b39 => bn (F_X12_fails b39 (2 : Int32)) fun v40 => rz v40
set_option maxRecDepth 100000 in
theorem O_X12_readRule_L140 (Γ : Gam) (this : Nat) : Ok Γ mX12_readRule 108 (qo Γ vI) 140 [(0, va_rf (some this))] [] (F_X12_readRule_L140 this) := by
  unfold F_X12_readRule_L140
  refine ok_aload_n (dd TX12_readRule_1 32 rfl) 0 rfl ?_
  refine ok_iconst (v := (2 : Int32)) (dd TX12_readRule_1 33 rfl) (by decide) ?_
  refine ok_callVI (cn := 12) [.int (2 : Int32)] [] (fun b39 => C_X12_fails Γ b39 (2 : Int32)) rfl cy_X12_fails ml_RX12_165 im_X12_fails se_X12_fails (by decide) (Nat.le_of_ble_eq_true rfl) rfl (dd TX12_readRule_1 34 rfl) (fun v40 => ?_)
  exact ok_zreturn (dd TX12_readRule_1 35 rfl) rfl
def F_X12_readRule (this : Nat) : M Int32 := bn (gI 12 38 (some this)) fun v1 => if ¬ v1 = (2 : Int32) then F_X12_readRule_L17 this else bn (gI 12 39 (some this)) fun v2 => if v2 < (6 : Int32) then bn (gI 12 41 (some this)) fun v3 => if ¬ v3 = (30 : Int32) then bn (gP 12 4 (some this)) fun v4 => bn (gI 12 41 (some this)) fun v5 => bn (gI 12 39 (some this)) fun v6 => bn (stI 168 v4 v5 v6) fun _ => bn (pRc 12 (some this)) fun b7 => bn (F_X12_next b7) fun _ => bn (gI 12 38 (some this)) fun v8 => if ¬ v8 = (2 : Int32) then F_X12_readRule_L72 this else bn (gI 12 39 (some this)) fun v9 => if v9 = (6 : Int32) then bn (pRc 12 (some this)) fun b10 => bn (F_X12_next b10) fun _ => bn (gI 12 38 (some this)) fun v11 => if ¬ v11 = (1 : Int32) then F_X12_readRule_L100 this else bn (gI 12 39 (some this)) fun v12 => if v12 ≤ (150 : Int32) then bn (gP 12 5 (some this)) fun v13 => bn (gI 12 41 (some this)) fun v14 => bn (gI 12 39 (some this)) fun v15 => bn (stI 176 v13 v14 v15) fun _ => bn (pRc 12 (some this)) fun b16 => bn (F_X12_next b16) fun _ => bn (gI 12 38 (some this)) fun v17 => if ¬ v17 = (2 : Int32) then F_X12_readRule_L140 this else bn (gI 12 39 (some this)) fun v18 => if v18 = (7 : Int32) then bn (pRc 12 (some this)) fun b19 => bn (F_X12_next b19) fun _ => bn (wI 12 42 (some this) (0 : Int32)) fun _ => bn (wI 12 43 (some this) (0 : Int32)) fun _ => bn (pRc 12 (some this)) fun b20 => bn (F_X12_readExpr b20) fun v21 => if ¬ v21 = 0 then bn (gP 12 6 (some this)) fun v22 => bn (gI 12 41 (some this)) fun v23 => bn (gI 12 42 (some this)) fun v24 => bn (stI 184 v22 v23 v24) fun _ => bn (pRc 12 (some this)) fun b25 => bn (F_X12_isSign b25 (59 : Int32)) fun v26 => if ¬ v26 = 0 then bn (pRc 12 (some this)) fun b27 => bn (F_X12_next b27) fun _ => bn (gI 12 41 (some this)) fun v28 => bn (wI 12 41 (some this) (v28 + (1 : Int32))) fun _ => rz (1 : Int32) else bn (pRc 12 (some this)) fun b29 => bn (F_X12_fails b29 (2 : Int32)) fun v30 => rz v30 else rz (0 : Int32) else F_X12_readRule_L140 this else F_X12_readRule_L100 this else F_X12_readRule_L72 this else bn (pRc 12 (some this)) fun b31 => bn (F_X12_fails b31 (4 : Int32)) fun v32 => rz v32 else F_X12_readRule_L17 this
set_option maxRecDepth 100000 in
theorem C_X12_readRule (Γ : Gam) (this : Nat) : Ct Γ mX12_readRule 108 vI [va_rf (some this)] (F_X12_readRule this) := by
  refine ct_in (lv := [(0, va_rf (some this))]) (by decide) (by first | rfl | (simp only [lv_args, cat_rf]; rfl)) (by first | exact Nat.le_of_ble_eq_true rfl | (rw [lg_len]; simp only [List.map_cons, List.map_nil, cat_rf]; exact Nat.le_of_ble_eq_true rfl)) ?_
  unfold F_X12_readRule
  refine ok_aload_n (dd TX12_readRule_0 0 rfl) 0 rfl ?_
  refine ok_gI fl_RX12_134 rfl (dd TX12_readRule_0 1 rfl) (fun v1 => ?_)
  refine ok_iconst (v := (2 : Int32)) (dd TX12_readRule_0 2 rfl) (by decide) ?_
  refine ok_icmp_ne (tgt := 17) (dd TX12_readRule_0 3 rfl) (by decide) ?_ ?_
  · exact O_X12_readRule_L17 Γ this
  · refine ok_aload_n (dd TX12_readRule_0 4 rfl) 0 rfl ?_
    refine ok_gI fl_RX12_144 rfl (dd TX12_readRule_0 5 rfl) (fun v2 => ?_)
    refine ok_bipush (v := (6 : Int32)) (dd TX12_readRule_0 6 rfl) (by decide) ?_
    refine ok_icmp_lt (tgt := 23) (dd TX12_readRule_0 7 rfl) (by decide) ?_ ?_
    · refine ok_aload_n (dd TX12_readRule_0 12 rfl) 0 rfl ?_
      refine ok_gI fl_RX12_168 rfl (dd TX12_readRule_0 13 rfl) (fun v3 => ?_)
      refine ok_bipush (v := (30 : Int32)) (dd TX12_readRule_0 14 rfl) (by decide) ?_
      refine ok_icmp_ne (tgt := 38) (dd TX12_readRule_0 15 rfl) (by decide) ?_ ?_
      · refine ok_aload_n (dd TX12_readRule_0 20 rfl) 0 rfl ?_
        refine ok_gP fl_RX12_13 rfl (dd TX12_readRule_0 21 rfl) (fun v4 => ?_)
        refine ok_aload_n (dd TX12_readRule_0 22 rfl) 0 rfl ?_
        refine ok_gI fl_RX12_168 rfl (dd TX12_readRule_0 23 rfl) (fun v5 => ?_)
        refine ok_aload_n (dd TX12_readRule_0 24 rfl) 0 rfl ?_
        refine ok_gI fl_RX12_144 rfl (dd TX12_readRule_0 25 rfl) (fun v6 => ?_)
        refine ok_stI (kd := 168) (by decide) rfl (dd TX12_readRule_0 26 rfl) ?_
        refine ok_aload_n (dd TX12_readRule_0 27 rfl) 0 rfl ?_
        refine ok_callVV (cn := 12) [] [] (fun b7 => C_X12_next Γ b7) rfl cy_X12_next ml_RX12_171 im_X12_next se_X12_next (by decide) (Nat.le_of_ble_eq_true rfl) rfl (dd TX12_readRule_0 28 rfl) ?_
        refine ok_aload_n (dd TX12_readRule_0 29 rfl) 0 rfl ?_
        refine ok_gI fl_RX12_134 rfl (dd TX12_readRule_0 30 rfl) (fun v8 => ?_)
        refine ok_iconst (v := (2 : Int32)) (dd TX12_readRule_0 31 rfl) (by decide) ?_
        refine ok_icmp_ne (tgt := 72) (dd TX12_readRule_0 32 rfl) (by decide) ?_ ?_
        · exact O_X12_readRule_L72 Γ this
        · refine ok_aload_n (dd TX12_readRule_0 33 rfl) 0 rfl ?_
          refine ok_gI fl_RX12_144 rfl (dd TX12_readRule_0 34 rfl) (fun v9 => ?_)
          refine ok_bipush (v := (6 : Int32)) (dd TX12_readRule_0 35 rfl) (by decide) ?_
          refine ok_icmp_eq (tgt := 78) (dd TX12_readRule_0 36 rfl) (by decide) ?_ ?_
          · refine ok_aload_n (dd TX12_readRule_1 1 rfl) 0 rfl ?_
            refine ok_callVV (cn := 12) [] [] (fun b10 => C_X12_next Γ b10) rfl cy_X12_next ml_RX12_171 im_X12_next se_X12_next (by decide) (Nat.le_of_ble_eq_true rfl) rfl (dd TX12_readRule_1 2 rfl) ?_
            refine ok_aload_n (dd TX12_readRule_1 3 rfl) 0 rfl ?_
            refine ok_gI fl_RX12_134 rfl (dd TX12_readRule_1 4 rfl) (fun v11 => ?_)
            refine ok_iconst (v := (1 : Int32)) (dd TX12_readRule_1 5 rfl) (by decide) ?_
            refine ok_icmp_ne (tgt := 100) (dd TX12_readRule_1 6 rfl) (by decide) ?_ ?_
            · exact O_X12_readRule_L100 Γ this
            · refine ok_aload_n (dd TX12_readRule_1 7 rfl) 0 rfl ?_
              refine ok_gI fl_RX12_144 rfl (dd TX12_readRule_1 8 rfl) (fun v12 => ?_)
              refine ok_sipush (v := (150 : Int32)) (dd TX12_readRule_1 9 rfl) (by decide) ?_
              refine ok_icmp_le (tgt := 106) (dd TX12_readRule_1 10 rfl) (by decide) ?_ ?_
              · refine ok_aload_n (dd TX12_readRule_1 15 rfl) 0 rfl ?_
                refine ok_gP fl_RX12_16 rfl (dd TX12_readRule_1 16 rfl) (fun v13 => ?_)
                refine ok_aload_n (dd TX12_readRule_1 17 rfl) 0 rfl ?_
                refine ok_gI fl_RX12_168 rfl (dd TX12_readRule_1 18 rfl) (fun v14 => ?_)
                refine ok_aload_n (dd TX12_readRule_1 19 rfl) 0 rfl ?_
                refine ok_gI fl_RX12_144 rfl (dd TX12_readRule_1 20 rfl) (fun v15 => ?_)
                refine ok_stI (kd := 176) (by decide) rfl (dd TX12_readRule_1 21 rfl) ?_
                refine ok_aload_n (dd TX12_readRule_1 22 rfl) 0 rfl ?_
                refine ok_callVV (cn := 12) [] [] (fun b16 => C_X12_next Γ b16) rfl cy_X12_next ml_RX12_171 im_X12_next se_X12_next (by decide) (Nat.le_of_ble_eq_true rfl) rfl (dd TX12_readRule_1 23 rfl) ?_
                refine ok_aload_n (dd TX12_readRule_1 24 rfl) 0 rfl ?_
                refine ok_gI fl_RX12_134 rfl (dd TX12_readRule_1 25 rfl) (fun v17 => ?_)
                refine ok_iconst (v := (2 : Int32)) (dd TX12_readRule_1 26 rfl) (by decide) ?_
                refine ok_icmp_ne (tgt := 140) (dd TX12_readRule_1 27 rfl) (by decide) ?_ ?_
                · exact O_X12_readRule_L140 Γ this
                · refine ok_aload_n (dd TX12_readRule_1 28 rfl) 0 rfl ?_
                  refine ok_gI fl_RX12_144 rfl (dd TX12_readRule_1 29 rfl) (fun v18 => ?_)
                  refine ok_bipush (v := (7 : Int32)) (dd TX12_readRule_1 30 rfl) (by decide) ?_
                  refine ok_icmp_eq (tgt := 146) (dd TX12_readRule_1 31 rfl) (by decide) ?_ ?_
                  · refine ok_aload_n (dd TX12_readRule_1 36 rfl) 0 rfl ?_
                    refine ok_callVV (cn := 12) [] [] (fun b19 => C_X12_next Γ b19) rfl cy_X12_next ml_RX12_171 im_X12_next se_X12_next (by decide) (Nat.le_of_ble_eq_true rfl) rfl (dd TX12_readRule_1 37 rfl) ?_
                    refine ok_aload_n (dd TX12_readRule_1 38 rfl) 0 rfl ?_
                    refine ok_iconst (v := (0 : Int32)) (dd TX12_readRule_1 39 rfl) (by decide) ?_
                    refine ok_wI fl_RX12_162 (Or.inl rfl) (tyX12_ok 42 (by decide)) (by decide) rfl (dd TX12_readRule_2 0 rfl) ?_
                    refine ok_aload_n (dd TX12_readRule_2 1 rfl) 0 rfl ?_
                    refine ok_iconst (v := (0 : Int32)) (dd TX12_readRule_2 2 rfl) (by decide) ?_
                    refine ok_wI fl_RX12_181 (Or.inl rfl) (tyX12_ok 43 (by decide)) (by decide) rfl (dd TX12_readRule_2 3 rfl) ?_
                    refine ok_aload_n (dd TX12_readRule_2 4 rfl) 0 rfl ?_
                    refine ok_callVI (cn := 12) [] [] (fun b20 => C_X12_readExpr Γ b20) rfl cy_X12_readExpr ml_RX12_190 im_X12_readExpr se_X12_readExpr (by decide) (Nat.le_of_ble_eq_true rfl) rfl (dd TX12_readRule_2 5 rfl) (fun v21 => ?_)
                    refine ok_if_ne (tgt := 169) (dd TX12_readRule_2 6 rfl) (by decide) ?_ ?_
                    · refine ok_aload_n (dd TX12_readRule_2 9 rfl) 0 rfl ?_
                      refine ok_gP fl_RX12_19 rfl (dd TX12_readRule_2 10 rfl) (fun v22 => ?_)
                      refine ok_aload_n (dd TX12_readRule_2 11 rfl) 0 rfl ?_
                      refine ok_gI fl_RX12_168 rfl (dd TX12_readRule_2 12 rfl) (fun v23 => ?_)
                      refine ok_aload_n (dd TX12_readRule_2 13 rfl) 0 rfl ?_
                      refine ok_gI fl_RX12_162 rfl (dd TX12_readRule_2 14 rfl) (fun v24 => ?_)
                      refine ok_stI (kd := 184) (by decide) rfl (dd TX12_readRule_2 15 rfl) ?_
                      refine ok_aload_n (dd TX12_readRule_2 16 rfl) 0 rfl ?_
                      refine ok_bipush (v := (59 : Int32)) (dd TX12_readRule_2 17 rfl) (by decide) ?_
                      refine ok_callVI (cn := 12) [.int (59 : Int32)] [] (fun b25 => C_X12_isSign Γ b25 (59 : Int32)) rfl cy_X12_isSign ml_RX12_174 im_X12_isSign se_X12_isSign (by decide) (Nat.le_of_ble_eq_true rfl) rfl (dd TX12_readRule_2 18 rfl) (fun v26 => ?_)
                      refine ok_if_ne (tgt := 197) (dd TX12_readRule_2 19 rfl) (by decide) ?_ ?_
                      · refine ok_aload_n (dd TX12_readRule_2 24 rfl) 0 rfl ?_
                        refine ok_callVV (cn := 12) [] [] (fun b27 => C_X12_next Γ b27) rfl cy_X12_next ml_RX12_171 im_X12_next se_X12_next (by decide) (Nat.le_of_ble_eq_true rfl) rfl (dd TX12_readRule_2 25 rfl) ?_
                        refine ok_aload_n (dd TX12_readRule_2 26 rfl) 0 rfl ?_
                        refine ok_dup (dd TX12_readRule_2 27 rfl) (by first | rfl | exact cat_rf _) ?_
                        refine ok_gI fl_RX12_168 rfl (dd TX12_readRule_2 28 rfl) (fun v28 => ?_)
                        refine ok_iconst (v := (1 : Int32)) (dd TX12_readRule_2 29 rfl) (by decide) ?_
                        refine ok_iadd (dd TX12_readRule_2 30 rfl) ?_
                        refine ok_wI fl_RX12_168 (Or.inl rfl) (tyX12_ok 41 (by decide)) (by decide) rfl (dd TX12_readRule_2 31 rfl) ?_
                        refine ok_iconst (v := (1 : Int32)) (dd TX12_readRule_2 32 rfl) (by decide) ?_
                        exact ok_zreturn (dd TX12_readRule_2 33 rfl) rfl
                      · refine ok_aload_n (dd TX12_readRule_2 20 rfl) 0 rfl ?_
                        refine ok_iconst (v := (2 : Int32)) (dd TX12_readRule_2 21 rfl) (by decide) ?_
                        refine ok_callVI (cn := 12) [.int (2 : Int32)] [] (fun b29 => C_X12_fails Γ b29 (2 : Int32)) rfl cy_X12_fails ml_RX12_165 im_X12_fails se_X12_fails (by decide) (Nat.le_of_ble_eq_true rfl) rfl (dd TX12_readRule_2 22 rfl) (fun v30 => ?_)
                        exact ok_zreturn (dd TX12_readRule_2 23 rfl) rfl
                    · refine ok_iconst (v := (0 : Int32)) (dd TX12_readRule_2 7 rfl) (by decide) ?_
                      exact ok_zreturn (dd TX12_readRule_2 8 rfl) rfl
                  · exact O_X12_readRule_L140 Γ this
              · exact O_X12_readRule_L100 Γ this
          · exact O_X12_readRule_L72 Γ this
      · refine ok_aload_n (dd TX12_readRule_0 16 rfl) 0 rfl ?_
        refine ok_iconst (v := (4 : Int32)) (dd TX12_readRule_0 17 rfl) (by decide) ?_
        refine ok_callVI (cn := 12) [.int (4 : Int32)] [] (fun b31 => C_X12_fails Γ b31 (4 : Int32)) rfl cy_X12_fails ml_RX12_165 im_X12_fails se_X12_fails (by decide) (Nat.le_of_ble_eq_true rfl) rfl (dd TX12_readRule_0 18 rfl) (fun v32 => ?_)
        exact ok_zreturn (dd TX12_readRule_0 19 rfl) rfl
    · exact O_X12_readRule_L17 Γ this
def F_X12_rules_L66 (this : Nat) (x1 : Int32) : M Int32 := if ¬ x1 = 0 then bn (gI 12 41 (some this)) fun v7 => bn (gI 12 9 (some this)) fun v8 => bn (gI 12 41 (some this)) fun v9 => bn (wI 12 9 (some this) v9) fun _ => rt (v7 - v8) else rt (-1 : Int32)
set_option maxRecDepth 100000 in
theorem O_X12_rules_L66 (Γ : Gam) (this : Nat) (x1 : Int32) : Ok Γ mX12_rules 109 (qo Γ vI) 66 [(0, va_rf (some this)), (1, .int x1)] [] (F_X12_rules_L66 this x1) := by
  unfold F_X12_rules_L66
  refine ok_iload_n (dd TX12_rules_0 36 rfl) 1 rfl ?_
  refine ok_if_ne (tgt := 72) (dd TX12_rules_0 37 rfl) (by decide) ?_ ?_
  · refine ok_aload_n (dd TX12_rules_1 0 rfl) 0 rfl ?_
    refine ok_gI fl_RX12_168 rfl (dd TX12_rules_1 1 rfl) (fun v7 => ?_)
    refine ok_aload_n (dd TX12_rules_1 2 rfl) 0 rfl ?_
    refine ok_gI fl_RX12_202 rfl (dd TX12_rules_1 3 rfl) (fun v8 => ?_)
    refine ok_isub (dd TX12_rules_1 4 rfl) ?_
    refine ok_istore_n (lv' := [(2, .int (v7 - v8)), (0, va_rf (some this)), (1, .int x1)]) (dd TX12_rules_1 5 rfl) (by decide) (by first | rfl | (simp only [List.filter, cat_rf]; rfl)) ?_
    refine ok_aload_n (dd TX12_rules_1 6 rfl) 1 rfl ?_
    refine ok_aload_n (dd TX12_rules_1 7 rfl) 1 rfl ?_
    refine ok_gI fl_RX12_168 rfl (dd TX12_rules_1 8 rfl) (fun v9 => ?_)
    refine ok_wI fl_RX12_202 (Or.inl rfl) (tyX12_ok 9 (by decide)) (by decide) rfl (dd TX12_rules_1 9 rfl) ?_
    refine ok_iload_n (dd TX12_rules_1 10 rfl) 0 rfl ?_
    exact ok_ireturn (dd TX12_rules_1 11 rfl) rfl
  · refine ok_iconst (v := (-1 : Int32)) (dd TX12_rules_0 38 rfl) (by decide) ?_
    exact ok_ireturn (dd TX12_rules_0 39 rfl) rfl
def F_X12_rules_L47 : Nat → Nat → Int32 → M Int32
  | 0 => fun _ _ => fl
  | n + 1 => fun this x1 => if x1 = 0 then F_X12_rules_L66 this x1 else bn (gI 12 38 (some this)) fun v4 => if v4 = 0 then F_X12_rules_L66 this x1 else bn (pRc 12 (some this)) fun b5 => bn (F_X12_readRule b5) fun v6 => F_X12_rules_L47 n this v6
set_option maxRecDepth 100000 in
theorem O_X12_rules_L47 (Γ : Gam) (n : Nat) : ∀ (this : Nat) (x1 : Int32), Ok Γ mX12_rules 109 (qo Γ vI) 47 [(0, va_rf (some this)), (1, .int x1)] [] (F_X12_rules_L47 n this x1) := by
  induction n with
  | zero => intro this x1; exact ok_fl
  | succ n ih =>
    intro this x1
    rw [F_X12_rules_L47]
    refine ok_iload_n (dd TX12_rules_0 27 rfl) 1 rfl ?_
    refine ok_if_eq (tgt := 66) (dd TX12_rules_0 28 rfl) (by decide) ?_ ?_
    · exact O_X12_rules_L66 Γ this x1
    · refine ok_aload_n (dd TX12_rules_0 29 rfl) 0 rfl ?_
      refine ok_gI fl_RX12_134 rfl (dd TX12_rules_0 30 rfl) (fun v4 => ?_)
      refine ok_if_eq (tgt := 66) (dd TX12_rules_0 31 rfl) (by decide) ?_ ?_
      · exact O_X12_rules_L66 Γ this x1
      · refine ok_aload_n (dd TX12_rules_0 32 rfl) 0 rfl ?_
        refine ok_callVI (cn := 12) [] [] (fun b5 => C_X12_readRule Γ b5) rfl cy_X12_readRule ml_RX12_205 im_X12_readRule se_X12_readRule (by decide) (Nat.le_of_ble_eq_true rfl) rfl (dd TX12_rules_0 33 rfl) (fun v6 => ?_)
        refine ok_istore_n (lv' := [(1, .int v6), (0, va_rf (some this))]) (dd TX12_rules_0 34 rfl) (by decide) (by first | rfl | (simp only [List.filter, cat_rf]; rfl)) ?_
        refine ok_goto (tgt := 47) (dd TX12_rules_0 35 rfl) (by decide) ?_
        refine ok_sub [1, 0] rfl ?_
        exact ih this v6
def F_X12_rules (this : Nat) : M Int32 := bn (wI 12 35 (some this) (0 : Int32)) fun _ => bn (gI 12 1 (some this)) fun v1 => bn (wI 12 40 (some this) v1) fun _ => bn (wI 12 1 (some this) (0 : Int32)) fun _ => bn (wI 12 2 (some this) (0 : Int32)) fun _ => bn (wI 12 3 (some this) (0 : Int32)) fun _ => bn (wI 12 37 (some this) (0 : Int32)) fun _ => bn (pRc 12 (some this)) fun b2 => bn (F_X12_next b2) fun _ => bn (gI 12 9 (some this)) fun v3 => bn (wI 12 41 (some this) v3) fun _ => F_X12_rules_L47 FU this (1 : Int32)
set_option maxRecDepth 100000 in
theorem C_X12_rules (Γ : Gam) (this : Nat) : Ct Γ mX12_rules 109 vI [va_rf (some this)] (F_X12_rules this) := by
  refine ct_in (lv := [(0, va_rf (some this))]) (by decide) (by first | rfl | (simp only [lv_args, cat_rf]; rfl)) (by first | exact Nat.le_of_ble_eq_true rfl | (rw [lg_len]; simp only [List.map_cons, List.map_nil, cat_rf]; exact Nat.le_of_ble_eq_true rfl)) ?_
  unfold F_X12_rules
  refine ok_aload_n (dd TX12_rules_0 0 rfl) 0 rfl ?_
  refine ok_iconst (v := (0 : Int32)) (dd TX12_rules_0 1 rfl) (by decide) ?_
  refine ok_wI fl_RX12_90 (Or.inl rfl) (tyX12_ok 35 (by decide)) (by decide) rfl (dd TX12_rules_0 2 rfl) ?_
  refine ok_aload_n (dd TX12_rules_0 3 rfl) 0 rfl ?_
  refine ok_aload_n (dd TX12_rules_0 4 rfl) 0 rfl ?_
  refine ok_gI fl_RX12_103 rfl (dd TX12_rules_0 5 rfl) (fun v1 => ?_)
  refine ok_wI fl_RX12_132 (Or.inl rfl) (tyX12_ok 40 (by decide)) (by decide) rfl (dd TX12_rules_0 6 rfl) ?_
  refine ok_aload_n (dd TX12_rules_0 7 rfl) 0 rfl ?_
  refine ok_iconst (v := (0 : Int32)) (dd TX12_rules_0 8 rfl) (by decide) ?_
  refine ok_wI fl_RX12_103 (Or.inl rfl) (tyX12_ok 1 (by decide)) (by decide) rfl (dd TX12_rules_0 9 rfl) ?_
  refine ok_aload_n (dd TX12_rules_0 10 rfl) 0 rfl ?_
  refine ok_iconst (v := (0 : Int32)) (dd TX12_rules_0 11 rfl) (by decide) ?_
  refine ok_wI fl_RX12_156 (Or.inl rfl) (tyX12_ok 2 (by decide)) (by decide) rfl (dd TX12_rules_0 12 rfl) ?_
  refine ok_aload_n (dd TX12_rules_0 13 rfl) 0 rfl ?_
  refine ok_iconst (v := (0 : Int32)) (dd TX12_rules_0 14 rfl) (by decide) ?_
  refine ok_wI fl_RX12_159 (Or.inl rfl) (tyX12_ok 3 (by decide)) (by decide) rfl (dd TX12_rules_0 15 rfl) ?_
  refine ok_aload_n (dd TX12_rules_0 16 rfl) 0 rfl ?_
  refine ok_iconst (v := (0 : Int32)) (dd TX12_rules_0 17 rfl) (by decide) ?_
  refine ok_wI fl_RX12_126 (Or.inl rfl) (tyX12_ok 37 (by decide)) (by decide) rfl (dd TX12_rules_0 18 rfl) ?_
  refine ok_aload_n (dd TX12_rules_0 19 rfl) 0 rfl ?_
  refine ok_callVV (cn := 12) [] [] (fun b2 => C_X12_next Γ b2) rfl cy_X12_next ml_RX12_171 im_X12_next se_X12_next (by decide) (Nat.le_of_ble_eq_true rfl) rfl (dd TX12_rules_0 20 rfl) ?_
  refine ok_aload_n (dd TX12_rules_0 21 rfl) 0 rfl ?_
  refine ok_aload_n (dd TX12_rules_0 22 rfl) 0 rfl ?_
  refine ok_gI fl_RX12_202 rfl (dd TX12_rules_0 23 rfl) (fun v3 => ?_)
  refine ok_wI fl_RX12_168 (Or.inl rfl) (tyX12_ok 41 (by decide)) (by decide) rfl (dd TX12_rules_0 24 rfl) ?_
  refine ok_iconst (v := (1 : Int32)) (dd TX12_rules_0 25 rfl) (by decide) ?_
  refine ok_istore_n (lv' := [(1, .int (1 : Int32)), (0, va_rf (some this))]) (dd TX12_rules_0 26 rfl) (by decide) (by first | rfl | (simp only [List.filter, cat_rf]; rfl)) ?_
  refine ok_sub [1, 0] rfl ?_
  exact O_X12_rules_L47 Γ FU this (1 : Int32)
def F_X12_ruleOf_L85  : M Int32 := rt (1000 : Int32)
set_option maxRecDepth 100000 in
theorem O_X12_ruleOf_L85 (Γ : Gam)  : Ok Γ mX12_ruleOf 101 (qo Γ vI) 85 [] [] (F_X12_ruleOf_L85 ) := by
  unfold F_X12_ruleOf_L85
  refine ok_sipush (v := (1000 : Int32)) (dd TX12_ruleOf_1 4 rfl) (by decide) ?_
  refine ok_goto (tgt := 92) (dd TX12_ruleOf_1 5 rfl) (by decide) ?_
  exact ok_ireturn (dd TX12_ruleOf_1 7 rfl) rfl
def F_X12_ruleOf_L64 (k6 : Nat → Int32 → Int32 → Int32 → Int32 → Int32 → Int32 → Int32 → Int32 → Int32 → M Int32) (this : Nat) (x1 : Int32) (x2 : Int32) (x3 : Int32) (x4 : Int32) (x5 : Int32) (x6 : Int32) (x7 : Int32) (x8 : Int32) (x9 : Int32) : M Int32 := k6 this x1 x2 x3 x4 x5 x6 x7 x8 (x9 + (1 : Int32))
set_option maxRecDepth 100000 in
theorem O_X12_ruleOf_L64 (Γ : Gam) (k6 : Nat → Int32 → Int32 → Int32 → Int32 → Int32 → Int32 → Int32 → Int32 → Int32 → M Int32) (hk6 : ∀ (z0 : Nat) (z1 : Int32) (z2 : Int32) (z3 : Int32) (z4 : Int32) (z5 : Int32) (z6 : Int32) (z7 : Int32) (z8 : Int32) (z9 : Int32), Ok Γ mX12_ruleOf 101 (qo Γ vI) 6 [(0, va_rf (some z0)), (1, .int z1), (2, .int z2), (3, .int z3), (4, .int z4), (5, .int z5), (6, .int z6), (7, .int z7), (8, .int z8), (9, .int z9)] [] (k6 z0 z1 z2 z3 z4 z5 z6 z7 z8 z9)) (this : Nat) (x1 : Int32) (x2 : Int32) (x3 : Int32) (x4 : Int32) (x5 : Int32) (x6 : Int32) (x7 : Int32) (x8 : Int32) (x9 : Int32) : Ok Γ mX12_ruleOf 101 (qo Γ vI) 64 [(0, va_rf (some this)), (1, .int x1), (2, .int x2), (3, .int x3), (4, .int x4), (5, .int x5), (6, .int x6), (7, .int x7), (8, .int x8), (9, .int x9)] [] (F_X12_ruleOf_L64 k6 this x1 x2 x3 x4 x5 x6 x7 x8 x9) := by
  unfold F_X12_ruleOf_L64
  refine ok_iinc (lv' := [(9, .int (x9 + (1 : Int32))), (0, va_rf (some this)), (1, .int x1), (2, .int x2), (3, .int x3), (4, .int x4), (5, .int x5), (6, .int x6), (7, .int x7), (8, .int x8)]) (dd TX12_ruleOf_0 34 rfl) 9 rfl (congrArg (fun q : Int32 => x9 + q) (show Int32.ofInt (1) = (1 : Int32) from by decide)) (by decide) (by first | rfl | (simp only [List.filter, cat_rf]; rfl)) ?_
  refine ok_goto (tgt := 6) (dd TX12_ruleOf_0 35 rfl) (by decide) ?_
  refine ok_sub [1, 2, 3, 4, 5, 6, 7, 8, 9, 0] rfl ?_
  exact hk6 this x1 x2 x3 x4 x5 x6 x7 x8 (x9 + (1 : Int32))
def F_X12_ruleOf_L60 (k6 : Nat → Int32 → Int32 → Int32 → Int32 → Int32 → Int32 → Int32 → Int32 → Int32 → M Int32) (this : Nat) (x1 : Int32) (x2 : Int32) (x3 : Int32) (x4 : Int32) (x5 : Int32) (x6 : Int32) (x7 : Int32) (x9 : Int32) : M Int32 := F_X12_ruleOf_L64 k6 this x1 x2 x3 x4 x5 x6 x7 x9 x9
set_option maxRecDepth 100000 in
theorem O_X12_ruleOf_L60 (Γ : Gam) (k6 : Nat → Int32 → Int32 → Int32 → Int32 → Int32 → Int32 → Int32 → Int32 → Int32 → M Int32) (hk6 : ∀ (z0 : Nat) (z1 : Int32) (z2 : Int32) (z3 : Int32) (z4 : Int32) (z5 : Int32) (z6 : Int32) (z7 : Int32) (z8 : Int32) (z9 : Int32), Ok Γ mX12_ruleOf 101 (qo Γ vI) 6 [(0, va_rf (some z0)), (1, .int z1), (2, .int z2), (3, .int z3), (4, .int z4), (5, .int z5), (6, .int z6), (7, .int z7), (8, .int z8), (9, .int z9)] [] (k6 z0 z1 z2 z3 z4 z5 z6 z7 z8 z9)) (this : Nat) (x1 : Int32) (x2 : Int32) (x3 : Int32) (x4 : Int32) (x5 : Int32) (x6 : Int32) (x7 : Int32) (x9 : Int32) : Ok Γ mX12_ruleOf 101 (qo Γ vI) 60 [(0, va_rf (some this)), (1, .int x1), (2, .int x2), (3, .int x3), (4, .int x4), (5, .int x5), (6, .int x6), (7, .int x7), (9, .int x9)] [] (F_X12_ruleOf_L60 k6 this x1 x2 x3 x4 x5 x6 x7 x9) := by
  unfold F_X12_ruleOf_L60
  refine ok_iload (dd TX12_ruleOf_0 32 rfl) 8 rfl ?_
  refine ok_istore (lv' := [(8, .int x9), (0, va_rf (some this)), (1, .int x1), (2, .int x2), (3, .int x3), (4, .int x4), (5, .int x5), (6, .int x6), (7, .int x7), (9, .int x9)]) (dd TX12_ruleOf_0 33 rfl) (by decide) (by first | rfl | (simp only [List.filter, cat_rf]; rfl)) ?_
  refine ok_sub [1, 2, 3, 4, 5, 6, 7, 8, 0, 9] rfl ?_
  exact O_X12_ruleOf_L64 Γ k6 hk6 this x1 x2 x3 x4 x5 x6 x7 x9 x9
def F_X12_ruleOf_L6 : Nat → Nat → Int32 → Int32 → Int32 → Int32 → Int32 → Int32 → Int32 → Int32 → Int32 → M Int32
  | 0 => fun _ _ _ _ _ _ _ _ _ _ => fl
  | n + 1 => fun this x1 x2 x3 x4 x5 x6 x7 x8 x9 => bn (gI 12 9 (some this)) fun v1 => if v1 ≤ x9 then if ¬ x8 = (-1 : Int32) then bn (gP 12 46 (some this)) fun v2 => bn (stI 352 v2 (0 : Int32) x2) fun _ => bn (gP 12 46 (some this)) fun v3 => bn (stI 352 v3 (1 : Int32) x3) fun _ => bn (gP 12 46 (some this)) fun v4 => bn (stI 352 v4 (2 : Int32) x4) fun _ => bn (gP 12 46 (some this)) fun v5 => bn (stI 352 v5 (3 : Int32) x5) fun _ => bn (gP 12 46 (some this)) fun v6 => bn (stI 352 v6 (4 : Int32) x6) fun _ => bn (gP 12 46 (some this)) fun v7 => bn (stI 352 v7 (5 : Int32) x7) fun _ => bn (wI 12 45 (some this) x8) fun _ => bn (wI 12 44 (some this) (0 : Int32)) fun _ => bn (pRc 12 (some this)) fun b8 => bn (F_X12_expr b8) fun v9 => rt v9 else if x1 = 0 then F_X12_ruleOf_L85  else if ¬ x1 = (3 : Int32) then rt (0 : Int32) else F_X12_ruleOf_L85  else bn (gP 12 4 (some this)) fun v10 => bn (lI 168 v10 x9) fun v11 => if ¬ v11 = x1 then F_X12_ruleOf_L64 (F_X12_ruleOf_L6 n) this x1 x2 x3 x4 x5 x6 x7 x8 x9 else bn (gP 12 5 (some this)) fun v12 => bn (lI 176 v12 x9) fun v13 => if x2 < v13 then F_X12_ruleOf_L64 (F_X12_ruleOf_L6 n) this x1 x2 x3 x4 x5 x6 x7 x8 x9 else if x8 = (-1 : Int32) then F_X12_ruleOf_L60 (F_X12_ruleOf_L6 n) this x1 x2 x3 x4 x5 x6 x7 x9 else bn (gP 12 5 (some this)) fun v14 => bn (lI 176 v14 x9) fun v15 => bn (gP 12 5 (some this)) fun v16 => bn (lI 176 v16 x8) fun v17 => if v15 < v17 then F_X12_ruleOf_L64 (F_X12_ruleOf_L6 n) this x1 x2 x3 x4 x5 x6 x7 x8 x9 else F_X12_ruleOf_L60 (F_X12_ruleOf_L6 n) this x1 x2 x3 x4 x5 x6 x7 x9
set_option maxRecDepth 100000 in
theorem O_X12_ruleOf_L6 (Γ : Gam) (n : Nat) : ∀ (this : Nat) (x1 : Int32) (x2 : Int32) (x3 : Int32) (x4 : Int32) (x5 : Int32) (x6 : Int32) (x7 : Int32) (x8 : Int32) (x9 : Int32), Ok Γ mX12_ruleOf 101 (qo Γ vI) 6 [(0, va_rf (some this)), (1, .int x1), (2, .int x2), (3, .int x3), (4, .int x4), (5, .int x5), (6, .int x6), (7, .int x7), (8, .int x8), (9, .int x9)] [] (F_X12_ruleOf_L6 n this x1 x2 x3 x4 x5 x6 x7 x8 x9) := by
  induction n with
  | zero => intro this x1 x2 x3 x4 x5 x6 x7 x8 x9; exact ok_fl
  | succ n ih =>
    intro this x1 x2 x3 x4 x5 x6 x7 x8 x9
    rw [F_X12_ruleOf_L6]
    refine ok_iload (dd TX12_ruleOf_0 4 rfl) 9 rfl ?_
    refine ok_aload_n (dd TX12_ruleOf_0 5 rfl) 0 rfl ?_
    refine ok_gI fl_RX12_202 rfl (dd TX12_ruleOf_0 6 rfl) (fun v1 => ?_)
    refine ok_icmp_ge (tgt := 70) (dd TX12_ruleOf_0 7 rfl) (by decide) ?_ ?_
    · refine ok_iload (dd TX12_ruleOf_0 36 rfl) 8 rfl ?_
      refine ok_iconst (v := (-1 : Int32)) (dd TX12_ruleOf_0 37 rfl) (by decide) ?_
      refine ok_icmp_ne (tgt := 93) (dd TX12_ruleOf_0 38 rfl) (by decide) ?_ ?_
      · refine ok_aload_n (dd TX12_ruleOf_1 8 rfl) 0 rfl ?_
        refine ok_gP fl_RX12_84 rfl (dd TX12_ruleOf_1 9 rfl) (fun v2 => ?_)
        refine ok_iconst (v := (0 : Int32)) (dd TX12_ruleOf_1 10 rfl) (by decide) ?_
        refine ok_iload_n (dd TX12_ruleOf_1 11 rfl) 2 rfl ?_
        refine ok_stI (kd := 352) (by decide) rfl (dd TX12_ruleOf_1 12 rfl) ?_
        refine ok_aload_n (dd TX12_ruleOf_1 13 rfl) 0 rfl ?_
        refine ok_gP fl_RX12_84 rfl (dd TX12_ruleOf_1 14 rfl) (fun v3 => ?_)
        refine ok_iconst (v := (1 : Int32)) (dd TX12_ruleOf_1 15 rfl) (by decide) ?_
        refine ok_iload_n (dd TX12_ruleOf_1 16 rfl) 3 rfl ?_
        refine ok_stI (kd := 352) (by decide) rfl (dd TX12_ruleOf_1 17 rfl) ?_
        refine ok_aload_n (dd TX12_ruleOf_1 18 rfl) 0 rfl ?_
        refine ok_gP fl_RX12_84 rfl (dd TX12_ruleOf_1 19 rfl) (fun v4 => ?_)
        refine ok_iconst (v := (2 : Int32)) (dd TX12_ruleOf_1 20 rfl) (by decide) ?_
        refine ok_iload (dd TX12_ruleOf_1 21 rfl) 4 rfl ?_
        refine ok_stI (kd := 352) (by decide) rfl (dd TX12_ruleOf_1 22 rfl) ?_
        refine ok_aload_n (dd TX12_ruleOf_1 23 rfl) 0 rfl ?_
        refine ok_gP fl_RX12_84 rfl (dd TX12_ruleOf_1 24 rfl) (fun v5 => ?_)
        refine ok_iconst (v := (3 : Int32)) (dd TX12_ruleOf_1 25 rfl) (by decide) ?_
        refine ok_iload (dd TX12_ruleOf_1 26 rfl) 5 rfl ?_
        refine ok_stI (kd := 352) (by decide) rfl (dd TX12_ruleOf_1 27 rfl) ?_
        refine ok_aload_n (dd TX12_ruleOf_1 28 rfl) 0 rfl ?_
        refine ok_gP fl_RX12_84 rfl (dd TX12_ruleOf_1 29 rfl) (fun v6 => ?_)
        refine ok_iconst (v := (4 : Int32)) (dd TX12_ruleOf_1 30 rfl) (by decide) ?_
        refine ok_iload (dd TX12_ruleOf_1 31 rfl) 6 rfl ?_
        refine ok_stI (kd := 352) (by decide) rfl (dd TX12_ruleOf_1 32 rfl) ?_
        refine ok_aload_n (dd TX12_ruleOf_1 33 rfl) 0 rfl ?_
        refine ok_gP fl_RX12_84 rfl (dd TX12_ruleOf_1 34 rfl) (fun v7 => ?_)
        refine ok_iconst (v := (5 : Int32)) (dd TX12_ruleOf_1 35 rfl) (by decide) ?_
        refine ok_iload (dd TX12_ruleOf_1 36 rfl) 7 rfl ?_
        refine ok_stI (kd := 352) (by decide) rfl (dd TX12_ruleOf_1 37 rfl) ?_
        refine ok_aload_n (dd TX12_ruleOf_1 38 rfl) 0 rfl ?_
        refine ok_iload (dd TX12_ruleOf_1 39 rfl) 8 rfl ?_
        refine ok_wI fl_RX12_208 (Or.inl rfl) (tyX12_ok 45 (by decide)) (by decide) rfl (dd TX12_ruleOf_2 0 rfl) ?_
        refine ok_aload_n (dd TX12_ruleOf_2 1 rfl) 0 rfl ?_
        refine ok_iconst (v := (0 : Int32)) (dd TX12_ruleOf_2 2 rfl) (by decide) ?_
        refine ok_wI fl_RX12_211 (Or.inl rfl) (tyX12_ok 44 (by decide)) (by decide) rfl (dd TX12_ruleOf_2 3 rfl) ?_
        refine ok_aload_n (dd TX12_ruleOf_2 4 rfl) 0 rfl ?_
        refine ok_callVI (cn := 12) [] [] (fun b8 => C_X12_expr Γ b8) rfl cy_X12_expr ml_RX12_220 im_X12_expr se_X12_expr (by decide) (Nat.le_of_ble_eq_true rfl) rfl (dd TX12_ruleOf_2 5 rfl) (fun v9 => ?_)
        exact ok_ireturn (dd TX12_ruleOf_2 6 rfl) rfl
      · refine ok_iload_n (dd TX12_ruleOf_0 39 rfl) 1 rfl ?_
        refine ok_if_eq (tgt := 85) (dd TX12_ruleOf_1 0 rfl) (by decide) ?_ ?_
        · refine ok_sub [] rfl ?_
          exact O_X12_ruleOf_L85 Γ 
        · refine ok_iload_n (dd TX12_ruleOf_1 1 rfl) 1 rfl ?_
          refine ok_iconst (v := (3 : Int32)) (dd TX12_ruleOf_1 2 rfl) (by decide) ?_
          refine ok_icmp_ne (tgt := 91) (dd TX12_ruleOf_1 3 rfl) (by decide) ?_ ?_
          · refine ok_iconst (v := (0 : Int32)) (dd TX12_ruleOf_1 6 rfl) (by decide) ?_
            exact ok_ireturn (dd TX12_ruleOf_1 7 rfl) rfl
          · refine ok_sub [] rfl ?_
            exact O_X12_ruleOf_L85 Γ 
    · refine ok_aload_n (dd TX12_ruleOf_0 8 rfl) 0 rfl ?_
      refine ok_gP fl_RX12_13 rfl (dd TX12_ruleOf_0 9 rfl) (fun v10 => ?_)
      refine ok_iload (dd TX12_ruleOf_0 10 rfl) 9 rfl ?_
      refine ok_lI (kd := 168) (by decide) rfl (dd TX12_ruleOf_0 11 rfl) (fun v11 => ?_)
      refine ok_iload_n (dd TX12_ruleOf_0 12 rfl) 1 rfl ?_
      refine ok_icmp_ne (tgt := 64) (dd TX12_ruleOf_0 13 rfl) (by decide) ?_ ?_
      · exact O_X12_ruleOf_L64 Γ (F_X12_ruleOf_L6 n) ih this x1 x2 x3 x4 x5 x6 x7 x8 x9
      · refine ok_aload_n (dd TX12_ruleOf_0 14 rfl) 0 rfl ?_
        refine ok_gP fl_RX12_16 rfl (dd TX12_ruleOf_0 15 rfl) (fun v12 => ?_)
        refine ok_iload (dd TX12_ruleOf_0 16 rfl) 9 rfl ?_
        refine ok_lI (kd := 176) (by decide) rfl (dd TX12_ruleOf_0 17 rfl) (fun v13 => ?_)
        refine ok_iload_n (dd TX12_ruleOf_0 18 rfl) 2 rfl ?_
        refine ok_icmp_gt (tgt := 64) (dd TX12_ruleOf_0 19 rfl) (by decide) ?_ ?_
        · exact O_X12_ruleOf_L64 Γ (F_X12_ruleOf_L6 n) ih this x1 x2 x3 x4 x5 x6 x7 x8 x9
        · refine ok_iload (dd TX12_ruleOf_0 20 rfl) 8 rfl ?_
          refine ok_iconst (v := (-1 : Int32)) (dd TX12_ruleOf_0 21 rfl) (by decide) ?_
          refine ok_icmp_eq (tgt := 60) (dd TX12_ruleOf_0 22 rfl) (by decide) ?_ ?_
          · refine ok_sub [0, 1, 2, 3, 4, 5, 6, 7, 9] rfl ?_
            exact O_X12_ruleOf_L60 Γ (F_X12_ruleOf_L6 n) ih this x1 x2 x3 x4 x5 x6 x7 x9
          · refine ok_aload_n (dd TX12_ruleOf_0 23 rfl) 0 rfl ?_
            refine ok_gP fl_RX12_16 rfl (dd TX12_ruleOf_0 24 rfl) (fun v14 => ?_)
            refine ok_iload (dd TX12_ruleOf_0 25 rfl) 9 rfl ?_
            refine ok_lI (kd := 176) (by decide) rfl (dd TX12_ruleOf_0 26 rfl) (fun v15 => ?_)
            refine ok_aload_n (dd TX12_ruleOf_0 27 rfl) 0 rfl ?_
            refine ok_gP fl_RX12_16 rfl (dd TX12_ruleOf_0 28 rfl) (fun v16 => ?_)
            refine ok_iload (dd TX12_ruleOf_0 29 rfl) 8 rfl ?_
            refine ok_lI (kd := 176) (by decide) rfl (dd TX12_ruleOf_0 30 rfl) (fun v17 => ?_)
            refine ok_icmp_lt (tgt := 64) (dd TX12_ruleOf_0 31 rfl) (by decide) ?_ ?_
            · exact O_X12_ruleOf_L64 Γ (F_X12_ruleOf_L6 n) ih this x1 x2 x3 x4 x5 x6 x7 x8 x9
            · refine ok_sub [0, 1, 2, 3, 4, 5, 6, 7, 9] rfl ?_
              exact O_X12_ruleOf_L60 Γ (F_X12_ruleOf_L6 n) ih this x1 x2 x3 x4 x5 x6 x7 x9
def F_X12_ruleOf (this : Nat) (p0 : Int32) (p1 : Int32) (p2 : Int32) (p3 : Int32) (p4 : Int32) (p5 : Int32) (p6 : Int32) : M Int32 := F_X12_ruleOf_L6 FU this p0 p1 p2 p3 p4 p5 p6 (-1 : Int32) (0 : Int32)
set_option maxRecDepth 100000 in
theorem C_X12_ruleOf (Γ : Gam) (this : Nat) (p0 : Int32) (p1 : Int32) (p2 : Int32) (p3 : Int32) (p4 : Int32) (p5 : Int32) (p6 : Int32) : Ct Γ mX12_ruleOf 101 vI [va_rf (some this), .int p0, .int p1, .int p2, .int p3, .int p4, .int p5, .int p6] (F_X12_ruleOf this p0 p1 p2 p3 p4 p5 p6) := by
  refine ct_in (lv := [(0, va_rf (some this)), (1, .int p0), (2, .int p1), (3, .int p2), (4, .int p3), (5, .int p4), (6, .int p5), (7, .int p6)]) (by decide) (by first | rfl | (simp only [lv_args, cat_rf]; rfl)) (by first | exact Nat.le_of_ble_eq_true rfl | (rw [lg_len]; simp only [List.map_cons, List.map_nil, cat_rf]; exact Nat.le_of_ble_eq_true rfl)) ?_
  unfold F_X12_ruleOf
  refine ok_iconst (v := (-1 : Int32)) (dd TX12_ruleOf_0 0 rfl) (by decide) ?_
  refine ok_istore (lv' := [(8, .int (-1 : Int32)), (0, va_rf (some this)), (1, .int p0), (2, .int p1), (3, .int p2), (4, .int p3), (5, .int p4), (6, .int p5), (7, .int p6)]) (dd TX12_ruleOf_0 1 rfl) (by decide) (by first | rfl | (simp only [List.filter, cat_rf]; rfl)) ?_
  refine ok_iconst (v := (0 : Int32)) (dd TX12_ruleOf_0 2 rfl) (by decide) ?_
  refine ok_istore (lv' := [(9, .int (0 : Int32)), (8, .int (-1 : Int32)), (0, va_rf (some this)), (1, .int p0), (2, .int p1), (3, .int p2), (4, .int p3), (5, .int p4), (6, .int p5), (7, .int p6)]) (dd TX12_ruleOf_0 3 rfl) (by decide) (by first | rfl | (simp only [List.filter, cat_rf]; rfl)) ?_
  refine ok_sub [2, 3, 4, 5, 6, 7, 8, 9, 1, 0] rfl ?_
  exact O_X12_ruleOf_L6 Γ FU this p0 p1 p2 p3 p4 p5 p6 (-1 : Int32) (0 : Int32)
