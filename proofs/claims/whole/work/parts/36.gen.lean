def F_X12_expr_L104 (r_X12_expr : Nat → M Int32) (r_X12_sum : Nat → M Int32) (r_X12_part : Nat → M Int32) (r_X12_factor : Nat → M Int32) (this : Nat) (x1 : Int32) : M Int32 := bn (pRc 12 (some this)) fun b16 => bn (F_X12_isNext b16 (63 : Int32)) fun v17 => if ¬ v17 = 0 then bn (gI 12 44 (some this)) fun v18 => bn (wI 12 44 (some this) (v18 + (1 : Int32))) fun _ => bn (pRc 12 (some this)) fun b19 => bn (r_X12_expr b19) fun v20 => bn (gI 12 44 (some this)) fun v21 => bn (wI 12 44 (some this) (v21 + (1 : Int32))) fun _ => bn (pRc 12 (some this)) fun b22 => bn (r_X12_expr b22) fun v23 => if x1 = 0 then rt v23 else rt v20 else rt x1
set_option maxRecDepth 100000 in
theorem O_X12_expr_L104 (Γ : Gam) (D : Nat) (hB : 0 ≤ D) (r_X12_expr : Nat → M Int32) (hr_X12_expr : ∀ (b : Nat), Ct Γ mX12_expr D vI [va_rf (some b)] (r_X12_expr b)) (r_X12_sum : Nat → M Int32) (hr_X12_sum : ∀ (b : Nat), Ct Γ mX12_sum D vI [va_rf (some b)] (r_X12_sum b)) (r_X12_part : Nat → M Int32) (hr_X12_part : ∀ (b : Nat), Ct Γ mX12_part D vI [va_rf (some b)] (r_X12_part b)) (r_X12_factor : Nat → M Int32) (hr_X12_factor : ∀ (b : Nat), Ct Γ mX12_factor D vI [va_rf (some b)] (r_X12_factor b)) (this : Nat) (x1 : Int32) : Ok Γ mX12_expr (D + 1) (qo Γ vI) 104 [(0, va_rf (some this)), (1, .int x1)] [] (F_X12_expr_L104 r_X12_expr r_X12_sum r_X12_part r_X12_factor this x1) := by
  unfold F_X12_expr_L104
  refine ok_aload_n (dd TX12_expr_1 16 rfl) 0 rfl ?_
  refine ok_bipush (v := (63 : Int32)) (dd TX12_expr_1 17 rfl) (by decide) ?_
  refine ok_callVI (cn := 12) [.int (63 : Int32)] [] (fun b16 => C_X12_isNext Γ b16 (63 : Int32)) rfl cy_X12_isNext ml_RX12_217 im_X12_isNext se_X12_isNext (by omega) (Nat.le_of_ble_eq_true rfl) rfl (dd TX12_expr_1 18 rfl) (fun v17 => ?_)
  refine ok_if_ne (tgt := 115) (dd TX12_expr_1 19 rfl) (by decide) ?_ ?_
  · refine ok_aload_n (dd TX12_expr_1 22 rfl) 0 rfl ?_
    refine ok_dup (dd TX12_expr_1 23 rfl) (by first | rfl | exact cat_rf _) ?_
    refine ok_gI fl_RX12_211 rfl (dd TX12_expr_1 24 rfl) (fun v18 => ?_)
    refine ok_iconst (v := (1 : Int32)) (dd TX12_expr_1 25 rfl) (by decide) ?_
    refine ok_iadd (dd TX12_expr_1 26 rfl) ?_
    refine ok_wI fl_RX12_211 (Or.inl rfl) (tyX12_ok 44 (by decide)) (by decide) rfl (dd TX12_expr_1 27 rfl) ?_
    refine ok_aload_n (dd TX12_expr_1 28 rfl) 0 rfl ?_
    refine ok_callVI (cn := 12) [] [] (fun b19 => hr_X12_expr b19) rfl cy_X12_expr ml_RX12_220 im_X12_expr se_X12_expr (Nat.le_refl _) (Nat.le_of_ble_eq_true rfl) rfl (dd TX12_expr_1 29 rfl) (fun v20 => ?_)
    refine ok_istore_n (lv' := [(2, .int v20), (0, va_rf (some this)), (1, .int x1)]) (dd TX12_expr_1 30 rfl) (by decide) (by first | rfl | (simp only [List.filter, cat_rf]; rfl)) ?_
    refine ok_aload_n (dd TX12_expr_1 31 rfl) 1 rfl ?_
    refine ok_dup (dd TX12_expr_1 32 rfl) (by first | rfl | exact cat_rf _) ?_
    refine ok_gI fl_RX12_211 rfl (dd TX12_expr_1 33 rfl) (fun v21 => ?_)
    refine ok_iconst (v := (1 : Int32)) (dd TX12_expr_1 34 rfl) (by decide) ?_
    refine ok_iadd (dd TX12_expr_1 35 rfl) ?_
    refine ok_wI fl_RX12_211 (Or.inl rfl) (tyX12_ok 44 (by decide)) (by decide) rfl (dd TX12_expr_1 36 rfl) ?_
    refine ok_aload_n (dd TX12_expr_1 37 rfl) 1 rfl ?_
    refine ok_callVI (cn := 12) [] [] (fun b22 => hr_X12_expr b22) rfl cy_X12_expr ml_RX12_220 im_X12_expr se_X12_expr (Nat.le_refl _) (Nat.le_of_ble_eq_true rfl) rfl (dd TX12_expr_1 38 rfl) (fun v23 => ?_)
    refine ok_istore_n (lv' := [(3, .int v23), (2, .int v20), (0, va_rf (some this)), (1, .int x1)]) (dd TX12_expr_1 39 rfl) (by decide) (by first | rfl | (simp only [List.filter, cat_rf]; rfl)) ?_
    refine ok_iload_n (dd TX12_expr_2 0 rfl) 3 rfl ?_
    refine ok_if_eq (tgt := 153) (dd TX12_expr_2 1 rfl) (by decide) ?_ ?_
    · refine ok_iload_n (dd TX12_expr_2 4 rfl) 0 rfl ?_
      exact ok_ireturn (dd TX12_expr_2 5 rfl) rfl
    · refine ok_iload_n (dd TX12_expr_2 2 rfl) 1 rfl ?_
      refine ok_goto (tgt := 154) (dd TX12_expr_2 3 rfl) (by decide) ?_
      exact ok_ireturn (dd TX12_expr_2 5 rfl) rfl
  · refine ok_iload_n (dd TX12_expr_1 20 rfl) 1 rfl ?_
    exact ok_ireturn (dd TX12_expr_1 21 rfl) rfl
def F_X12_expr_L103 (r_X12_expr : Nat → M Int32) (r_X12_sum : Nat → M Int32) (r_X12_part : Nat → M Int32) (r_X12_factor : Nat → M Int32) (this : Nat) (y0 : Int32) : M Int32 := F_X12_expr_L104 r_X12_expr r_X12_sum r_X12_part r_X12_factor this y0
set_option maxRecDepth 100000 in
theorem O_X12_expr_L103 (Γ : Gam) (D : Nat) (hB : 0 ≤ D) (r_X12_expr : Nat → M Int32) (hr_X12_expr : ∀ (b : Nat), Ct Γ mX12_expr D vI [va_rf (some b)] (r_X12_expr b)) (r_X12_sum : Nat → M Int32) (hr_X12_sum : ∀ (b : Nat), Ct Γ mX12_sum D vI [va_rf (some b)] (r_X12_sum b)) (r_X12_part : Nat → M Int32) (hr_X12_part : ∀ (b : Nat), Ct Γ mX12_part D vI [va_rf (some b)] (r_X12_part b)) (r_X12_factor : Nat → M Int32) (hr_X12_factor : ∀ (b : Nat), Ct Γ mX12_factor D vI [va_rf (some b)] (r_X12_factor b)) (this : Nat) (y0 : Int32) : Ok Γ mX12_expr (D + 1) (qo Γ vI) 103 [(0, va_rf (some this))] [.int y0] (F_X12_expr_L103 r_X12_expr r_X12_sum r_X12_part r_X12_factor this y0) := by
  unfold F_X12_expr_L103
  refine ok_istore_n (lv' := [(1, .int y0), (0, va_rf (some this))]) (dd TX12_expr_1 15 rfl) (by decide) (by first | rfl | (simp only [List.filter, cat_rf]; rfl)) ?_
  refine ok_sub [1, 0] rfl ?_
  exact O_X12_expr_L104 Γ D hB r_X12_expr hr_X12_expr r_X12_sum hr_X12_sum r_X12_part hr_X12_part r_X12_factor hr_X12_factor this y0
def F_X12_expr_L102 (r_X12_expr : Nat → M Int32) (r_X12_sum : Nat → M Int32) (r_X12_part : Nat → M Int32) (r_X12_factor : Nat → M Int32) (this : Nat) : M Int32 := F_X12_expr_L103 r_X12_expr r_X12_sum r_X12_part r_X12_factor this (0 : Int32)
set_option maxRecDepth 100000 in
theorem O_X12_expr_L102 (Γ : Gam) (D : Nat) (hB : 0 ≤ D) (r_X12_expr : Nat → M Int32) (hr_X12_expr : ∀ (b : Nat), Ct Γ mX12_expr D vI [va_rf (some b)] (r_X12_expr b)) (r_X12_sum : Nat → M Int32) (hr_X12_sum : ∀ (b : Nat), Ct Γ mX12_sum D vI [va_rf (some b)] (r_X12_sum b)) (r_X12_part : Nat → M Int32) (hr_X12_part : ∀ (b : Nat), Ct Γ mX12_part D vI [va_rf (some b)] (r_X12_part b)) (r_X12_factor : Nat → M Int32) (hr_X12_factor : ∀ (b : Nat), Ct Γ mX12_factor D vI [va_rf (some b)] (r_X12_factor b)) (this : Nat) : Ok Γ mX12_expr (D + 1) (qo Γ vI) 102 [(0, va_rf (some this))] [] (F_X12_expr_L102 r_X12_expr r_X12_sum r_X12_part r_X12_factor this) := by
  unfold F_X12_expr_L102
  refine ok_iconst (v := (0 : Int32)) (dd TX12_expr_1 14 rfl) (by decide) ?_
  exact O_X12_expr_L103 Γ D hB r_X12_expr hr_X12_expr r_X12_sum hr_X12_sum r_X12_part hr_X12_part r_X12_factor hr_X12_factor this (0 : Int32)
def F_X12_expr_L98 (r_X12_expr : Nat → M Int32) (r_X12_sum : Nat → M Int32) (r_X12_part : Nat → M Int32) (r_X12_factor : Nat → M Int32) (this : Nat) : M Int32 := F_X12_expr_L103 r_X12_expr r_X12_sum r_X12_part r_X12_factor this (1 : Int32)
set_option maxRecDepth 100000 in
theorem O_X12_expr_L98 (Γ : Gam) (D : Nat) (hB : 0 ≤ D) (r_X12_expr : Nat → M Int32) (hr_X12_expr : ∀ (b : Nat), Ct Γ mX12_expr D vI [va_rf (some b)] (r_X12_expr b)) (r_X12_sum : Nat → M Int32) (hr_X12_sum : ∀ (b : Nat), Ct Γ mX12_sum D vI [va_rf (some b)] (r_X12_sum b)) (r_X12_part : Nat → M Int32) (hr_X12_part : ∀ (b : Nat), Ct Γ mX12_part D vI [va_rf (some b)] (r_X12_part b)) (r_X12_factor : Nat → M Int32) (hr_X12_factor : ∀ (b : Nat), Ct Γ mX12_factor D vI [va_rf (some b)] (r_X12_factor b)) (this : Nat) : Ok Γ mX12_expr (D + 1) (qo Γ vI) 98 [(0, va_rf (some this))] [] (F_X12_expr_L98 r_X12_expr r_X12_sum r_X12_part r_X12_factor this) := by
  unfold F_X12_expr_L98
  refine ok_iconst (v := (1 : Int32)) (dd TX12_expr_1 12 rfl) (by decide) ?_
  refine ok_goto (tgt := 103) (dd TX12_expr_1 13 rfl) (by decide) ?_
  exact O_X12_expr_L103 Γ D hB r_X12_expr hr_X12_expr r_X12_sum hr_X12_sum r_X12_part hr_X12_part r_X12_factor hr_X12_factor this (1 : Int32)
def F_X12_expr_L32 (r_X12_expr : Nat → M Int32) (r_X12_sum : Nat → M Int32) (r_X12_part : Nat → M Int32) (r_X12_factor : Nat → M Int32) (this : Nat) (x1 : Int32) : M Int32 := bn (gP 12 8 (some this)) fun v9 => bn (gI 12 45 (some this)) fun v10 => bn (gI 12 44 (some this)) fun v11 => bn (lI 200 v9 (((60 : Int32) * v10) + v11)) fun v12 => bn (gI 12 44 (some this)) fun v13 => bn (wI 12 44 (some this) (v13 + (1 : Int32))) fun _ => bn (pRc 12 (some this)) fun b14 => bn (r_X12_sum b14) fun v15 => if ¬ v12 = (60 : Int32) then if ¬ v12 = (62 : Int32) then if ¬ x1 = v15 then F_X12_expr_L102 r_X12_expr r_X12_sum r_X12_part r_X12_factor this else F_X12_expr_L98 r_X12_expr r_X12_sum r_X12_part r_X12_factor this else if x1 ≤ v15 then F_X12_expr_L102 r_X12_expr r_X12_sum r_X12_part r_X12_factor this else F_X12_expr_L98 r_X12_expr r_X12_sum r_X12_part r_X12_factor this else if v15 ≤ x1 then F_X12_expr_L102 r_X12_expr r_X12_sum r_X12_part r_X12_factor this else F_X12_expr_L98 r_X12_expr r_X12_sum r_X12_part r_X12_factor this
set_option maxRecDepth 100000 in
theorem O_X12_expr_L32 (Γ : Gam) (D : Nat) (hB : 0 ≤ D) (r_X12_expr : Nat → M Int32) (hr_X12_expr : ∀ (b : Nat), Ct Γ mX12_expr D vI [va_rf (some b)] (r_X12_expr b)) (r_X12_sum : Nat → M Int32) (hr_X12_sum : ∀ (b : Nat), Ct Γ mX12_sum D vI [va_rf (some b)] (r_X12_sum b)) (r_X12_part : Nat → M Int32) (hr_X12_part : ∀ (b : Nat), Ct Γ mX12_part D vI [va_rf (some b)] (r_X12_part b)) (r_X12_factor : Nat → M Int32) (hr_X12_factor : ∀ (b : Nat), Ct Γ mX12_factor D vI [va_rf (some b)] (r_X12_factor b)) (this : Nat) (x1 : Int32) : Ok Γ mX12_expr (D + 1) (qo Γ vI) 32 [(0, va_rf (some this)), (1, .int x1)] [] (F_X12_expr_L32 r_X12_expr r_X12_sum r_X12_part r_X12_factor this x1) := by
  unfold F_X12_expr_L32
  refine ok_aload_n (dd TX12_expr_0 15 rfl) 0 rfl ?_
  refine ok_gP fl_RX12_25 rfl (dd TX12_expr_0 16 rfl) (fun v9 => ?_)
  refine ok_bipush (v := (60 : Int32)) (dd TX12_expr_0 17 rfl) (by decide) ?_
  refine ok_aload_n (dd TX12_expr_0 18 rfl) 0 rfl ?_
  refine ok_gI fl_RX12_208 rfl (dd TX12_expr_0 19 rfl) (fun v10 => ?_)
  refine ok_imul (dd TX12_expr_0 20 rfl) ?_
  refine ok_aload_n (dd TX12_expr_0 21 rfl) 0 rfl ?_
  refine ok_gI fl_RX12_211 rfl (dd TX12_expr_0 22 rfl) (fun v11 => ?_)
  refine ok_iadd (dd TX12_expr_0 23 rfl) ?_
  refine ok_lI (kd := 200) (by decide) rfl (dd TX12_expr_0 24 rfl) (fun v12 => ?_)
  refine ok_istore_n (lv' := [(2, .int v12), (0, va_rf (some this)), (1, .int x1)]) (dd TX12_expr_0 25 rfl) (by decide) (by first | rfl | (simp only [List.filter, cat_rf]; rfl)) ?_
  refine ok_aload_n (dd TX12_expr_0 26 rfl) 1 rfl ?_
  refine ok_dup (dd TX12_expr_0 27 rfl) (by first | rfl | exact cat_rf _) ?_
  refine ok_gI fl_RX12_211 rfl (dd TX12_expr_0 28 rfl) (fun v13 => ?_)
  refine ok_iconst (v := (1 : Int32)) (dd TX12_expr_0 29 rfl) (by decide) ?_
  refine ok_iadd (dd TX12_expr_0 30 rfl) ?_
  refine ok_wI fl_RX12_211 (Or.inl rfl) (tyX12_ok 44 (by decide)) (by decide) rfl (dd TX12_expr_0 31 rfl) ?_
  refine ok_aload_n (dd TX12_expr_0 32 rfl) 1 rfl ?_
  refine ok_callVI (cn := 12) [] [] (fun b14 => hr_X12_sum b14) rfl cy_X12_sum ml_RX12_214 im_X12_sum se_X12_sum (Nat.le_refl _) (Nat.le_of_ble_eq_true rfl) rfl (dd TX12_expr_0 33 rfl) (fun v15 => ?_)
  refine ok_istore_n (lv' := [(3, .int v15), (2, .int v12), (0, va_rf (some this)), (1, .int x1)]) (dd TX12_expr_0 34 rfl) (by decide) (by first | rfl | (simp only [List.filter, cat_rf]; rfl)) ?_
  refine ok_iload_n (dd TX12_expr_0 35 rfl) 1 rfl ?_
  refine ok_bipush (v := (60 : Int32)) (dd TX12_expr_0 36 rfl) (by decide) ?_
  refine ok_icmp_ne (tgt := 79) (dd TX12_expr_0 37 rfl) (by decide) ?_ ?_
  · refine ok_iload_n (dd TX12_expr_1 2 rfl) 1 rfl ?_
    refine ok_bipush (v := (62 : Int32)) (dd TX12_expr_1 3 rfl) (by decide) ?_
    refine ok_icmp_ne (tgt := 93) (dd TX12_expr_1 4 rfl) (by decide) ?_ ?_
    · refine ok_iload_n (dd TX12_expr_1 9 rfl) 3 rfl ?_
      refine ok_iload_n (dd TX12_expr_1 10 rfl) 0 rfl ?_
      refine ok_icmp_ne (tgt := 102) (dd TX12_expr_1 11 rfl) (by decide) ?_ ?_
      · refine ok_sub [2] rfl ?_
        exact O_X12_expr_L102 Γ D hB r_X12_expr hr_X12_expr r_X12_sum hr_X12_sum r_X12_part hr_X12_part r_X12_factor hr_X12_factor this
      · refine ok_sub [2] rfl ?_
        exact O_X12_expr_L98 Γ D hB r_X12_expr hr_X12_expr r_X12_sum hr_X12_sum r_X12_part hr_X12_part r_X12_factor hr_X12_factor this
    · refine ok_iload_n (dd TX12_expr_1 5 rfl) 3 rfl ?_
      refine ok_iload_n (dd TX12_expr_1 6 rfl) 0 rfl ?_
      refine ok_icmp_le (tgt := 102) (dd TX12_expr_1 7 rfl) (by decide) ?_ ?_
      · refine ok_sub [2] rfl ?_
        exact O_X12_expr_L102 Γ D hB r_X12_expr hr_X12_expr r_X12_sum hr_X12_sum r_X12_part hr_X12_part r_X12_factor hr_X12_factor this
      · refine ok_goto (tgt := 98) (dd TX12_expr_1 8 rfl) (by decide) ?_
        refine ok_sub [2] rfl ?_
        exact O_X12_expr_L98 Γ D hB r_X12_expr hr_X12_expr r_X12_sum hr_X12_sum r_X12_part hr_X12_part r_X12_factor hr_X12_factor this
  · refine ok_iload_n (dd TX12_expr_0 38 rfl) 3 rfl ?_
    refine ok_iload_n (dd TX12_expr_0 39 rfl) 0 rfl ?_
    refine ok_icmp_ge (tgt := 102) (dd TX12_expr_1 0 rfl) (by decide) ?_ ?_
    · refine ok_sub [2] rfl ?_
      exact O_X12_expr_L102 Γ D hB r_X12_expr hr_X12_expr r_X12_sum hr_X12_sum r_X12_part hr_X12_part r_X12_factor hr_X12_factor this
    · refine ok_goto (tgt := 98) (dd TX12_expr_1 1 rfl) (by decide) ?_
      refine ok_sub [2] rfl ?_
      exact O_X12_expr_L98 Γ D hB r_X12_expr hr_X12_expr r_X12_sum hr_X12_sum r_X12_part hr_X12_part r_X12_factor hr_X12_factor this
def F_X12_expr_B (r_X12_expr : Nat → M Int32) (r_X12_sum : Nat → M Int32) (r_X12_part : Nat → M Int32) (r_X12_factor : Nat → M Int32) (this : Nat) : M Int32 := bn (pRc 12 (some this)) fun b1 => bn (r_X12_sum b1) fun v2 => bn (pRc 12 (some this)) fun b3 => bn (F_X12_isNext b3 (60 : Int32)) fun v4 => if ¬ v4 = 0 then F_X12_expr_L32 r_X12_expr r_X12_sum r_X12_part r_X12_factor this v2 else bn (pRc 12 (some this)) fun b5 => bn (F_X12_isNext b5 (62 : Int32)) fun v6 => if ¬ v6 = 0 then F_X12_expr_L32 r_X12_expr r_X12_sum r_X12_part r_X12_factor this v2 else bn (pRc 12 (some this)) fun b7 => bn (F_X12_isNext b7 (61 : Int32)) fun v8 => if v8 = 0 then F_X12_expr_L104 r_X12_expr r_X12_sum r_X12_part r_X12_factor this v2 else F_X12_expr_L32 r_X12_expr r_X12_sum r_X12_part r_X12_factor this v2
set_option maxRecDepth 100000 in
theorem C_X12_expr_B (Γ : Gam) (D : Nat) (hB : 0 ≤ D) (r_X12_expr : Nat → M Int32) (hr_X12_expr : ∀ (b : Nat), Ct Γ mX12_expr D vI [va_rf (some b)] (r_X12_expr b)) (r_X12_sum : Nat → M Int32) (hr_X12_sum : ∀ (b : Nat), Ct Γ mX12_sum D vI [va_rf (some b)] (r_X12_sum b)) (r_X12_part : Nat → M Int32) (hr_X12_part : ∀ (b : Nat), Ct Γ mX12_part D vI [va_rf (some b)] (r_X12_part b)) (r_X12_factor : Nat → M Int32) (hr_X12_factor : ∀ (b : Nat), Ct Γ mX12_factor D vI [va_rf (some b)] (r_X12_factor b)) (this : Nat) : Ct Γ mX12_expr (D + 1) vI [va_rf (some this)] (F_X12_expr_B r_X12_expr r_X12_sum r_X12_part r_X12_factor this) := by
  refine ct_in (lv := [(0, va_rf (some this))]) (by decide) (by first | rfl | (simp only [lv_args, cat_rf]; rfl)) (by first | exact Nat.le_of_ble_eq_true rfl | (rw [lg_len]; simp only [List.map_cons, List.map_nil, cat_rf]; exact Nat.le_of_ble_eq_true rfl)) ?_
  unfold F_X12_expr_B
  refine ok_aload_n (dd TX12_expr_0 0 rfl) 0 rfl ?_
  refine ok_callVI (cn := 12) [] [] (fun b1 => hr_X12_sum b1) rfl cy_X12_sum ml_RX12_214 im_X12_sum se_X12_sum (Nat.le_refl _) (Nat.le_of_ble_eq_true rfl) rfl (dd TX12_expr_0 1 rfl) (fun v2 => ?_)
  refine ok_istore_n (lv' := [(1, .int v2), (0, va_rf (some this))]) (dd TX12_expr_0 2 rfl) (by decide) (by first | rfl | (simp only [List.filter, cat_rf]; rfl)) ?_
  refine ok_aload_n (dd TX12_expr_0 3 rfl) 1 rfl ?_
  refine ok_bipush (v := (60 : Int32)) (dd TX12_expr_0 4 rfl) (by decide) ?_
  refine ok_callVI (cn := 12) [.int (60 : Int32)] [] (fun b3 => C_X12_isNext Γ b3 (60 : Int32)) rfl cy_X12_isNext ml_RX12_217 im_X12_isNext se_X12_isNext (by omega) (Nat.le_of_ble_eq_true rfl) rfl (dd TX12_expr_0 5 rfl) (fun v4 => ?_)
  refine ok_if_ne (tgt := 32) (dd TX12_expr_0 6 rfl) (by decide) ?_ ?_
  · refine ok_sub [1, 0] rfl ?_
    exact O_X12_expr_L32 Γ D hB r_X12_expr hr_X12_expr r_X12_sum hr_X12_sum r_X12_part hr_X12_part r_X12_factor hr_X12_factor this v2
  · refine ok_aload_n (dd TX12_expr_0 7 rfl) 1 rfl ?_
    refine ok_bipush (v := (62 : Int32)) (dd TX12_expr_0 8 rfl) (by decide) ?_
    refine ok_callVI (cn := 12) [.int (62 : Int32)] [] (fun b5 => C_X12_isNext Γ b5 (62 : Int32)) rfl cy_X12_isNext ml_RX12_217 im_X12_isNext se_X12_isNext (by omega) (Nat.le_of_ble_eq_true rfl) rfl (dd TX12_expr_0 9 rfl) (fun v6 => ?_)
    refine ok_if_ne (tgt := 32) (dd TX12_expr_0 10 rfl) (by decide) ?_ ?_
    · refine ok_sub [1, 0] rfl ?_
      exact O_X12_expr_L32 Γ D hB r_X12_expr hr_X12_expr r_X12_sum hr_X12_sum r_X12_part hr_X12_part r_X12_factor hr_X12_factor this v2
    · refine ok_aload_n (dd TX12_expr_0 11 rfl) 1 rfl ?_
      refine ok_bipush (v := (61 : Int32)) (dd TX12_expr_0 12 rfl) (by decide) ?_
      refine ok_callVI (cn := 12) [.int (61 : Int32)] [] (fun b7 => C_X12_isNext Γ b7 (61 : Int32)) rfl cy_X12_isNext ml_RX12_217 im_X12_isNext se_X12_isNext (by omega) (Nat.le_of_ble_eq_true rfl) rfl (dd TX12_expr_0 13 rfl) (fun v8 => ?_)
      refine ok_if_eq (tgt := 104) (dd TX12_expr_0 14 rfl) (by decide) ?_ ?_
      · refine ok_sub [1, 0] rfl ?_
        exact O_X12_expr_L104 Γ D hB r_X12_expr hr_X12_expr r_X12_sum hr_X12_sum r_X12_part hr_X12_part r_X12_factor hr_X12_factor this v2
      · refine ok_sub [1, 0] rfl ?_
        exact O_X12_expr_L32 Γ D hB r_X12_expr hr_X12_expr r_X12_sum hr_X12_sum r_X12_part hr_X12_part r_X12_factor hr_X12_factor this v2
def F_X12_sum_L58 (r_X12_expr : Nat → M Int32) (r_X12_sum : Nat → M Int32) (r_X12_part : Nat → M Int32) (r_X12_factor : Nat → M Int32) (k5 : Nat → Int32 → M Int32) (this : Nat) (y0 : Int32) : M Int32 := k5 this y0
set_option maxRecDepth 100000 in
theorem O_X12_sum_L58 (Γ : Gam) (D : Nat) (hB : 0 ≤ D) (r_X12_expr : Nat → M Int32) (hr_X12_expr : ∀ (b : Nat), Ct Γ mX12_expr D vI [va_rf (some b)] (r_X12_expr b)) (r_X12_sum : Nat → M Int32) (hr_X12_sum : ∀ (b : Nat), Ct Γ mX12_sum D vI [va_rf (some b)] (r_X12_sum b)) (r_X12_part : Nat → M Int32) (hr_X12_part : ∀ (b : Nat), Ct Γ mX12_part D vI [va_rf (some b)] (r_X12_part b)) (r_X12_factor : Nat → M Int32) (hr_X12_factor : ∀ (b : Nat), Ct Γ mX12_factor D vI [va_rf (some b)] (r_X12_factor b)) (k5 : Nat → Int32 → M Int32) (hk5 : ∀ (z0 : Nat) (z1 : Int32), Ok Γ mX12_sum (D + 1) (qo Γ vI) 5 [(0, va_rf (some z0)), (1, .int z1)] [] (k5 z0 z1)) (this : Nat) (y0 : Int32) : Ok Γ mX12_sum (D + 1) (qo Γ vI) 58 [(0, va_rf (some this))] [.int y0] (F_X12_sum_L58 r_X12_expr r_X12_sum r_X12_part r_X12_factor k5 this y0) := by
  unfold F_X12_sum_L58
  refine ok_istore_n (lv' := [(1, .int y0), (0, va_rf (some this))]) (dd TX12_sum_0 33 rfl) (by decide) (by first | rfl | (simp only [List.filter, cat_rf]; rfl)) ?_
  refine ok_goto (tgt := 5) (dd TX12_sum_0 34 rfl) (by decide) ?_
  refine ok_sub [1, 0] rfl ?_
  exact hk5 this y0
def F_X12_sum_L23 (r_X12_expr : Nat → M Int32) (r_X12_sum : Nat → M Int32) (r_X12_part : Nat → M Int32) (r_X12_factor : Nat → M Int32) (k5 : Nat → Int32 → M Int32) (this : Nat) (x1 : Int32) : M Int32 := bn (pRc 12 (some this)) fun b7 => bn (F_X12_isNext b7 (43 : Int32)) fun v8 => bn (gI 12 44 (some this)) fun v9 => bn (wI 12 44 (some this) (v9 + (1 : Int32))) fun _ => bn (pRc 12 (some this)) fun b10 => bn (r_X12_part b10) fun v11 => if v8 = 0 then F_X12_sum_L58 r_X12_expr r_X12_sum r_X12_part r_X12_factor k5 this (x1 - v11) else F_X12_sum_L58 r_X12_expr r_X12_sum r_X12_part r_X12_factor k5 this (x1 + v11)
set_option maxRecDepth 100000 in
theorem O_X12_sum_L23 (Γ : Gam) (D : Nat) (hB : 0 ≤ D) (r_X12_expr : Nat → M Int32) (hr_X12_expr : ∀ (b : Nat), Ct Γ mX12_expr D vI [va_rf (some b)] (r_X12_expr b)) (r_X12_sum : Nat → M Int32) (hr_X12_sum : ∀ (b : Nat), Ct Γ mX12_sum D vI [va_rf (some b)] (r_X12_sum b)) (r_X12_part : Nat → M Int32) (hr_X12_part : ∀ (b : Nat), Ct Γ mX12_part D vI [va_rf (some b)] (r_X12_part b)) (r_X12_factor : Nat → M Int32) (hr_X12_factor : ∀ (b : Nat), Ct Γ mX12_factor D vI [va_rf (some b)] (r_X12_factor b)) (k5 : Nat → Int32 → M Int32) (hk5 : ∀ (z0 : Nat) (z1 : Int32), Ok Γ mX12_sum (D + 1) (qo Γ vI) 5 [(0, va_rf (some z0)), (1, .int z1)] [] (k5 z0 z1)) (this : Nat) (x1 : Int32) : Ok Γ mX12_sum (D + 1) (qo Γ vI) 23 [(0, va_rf (some this)), (1, .int x1)] [] (F_X12_sum_L23 r_X12_expr r_X12_sum r_X12_part r_X12_factor k5 this x1) := by
  unfold F_X12_sum_L23
  refine ok_aload_n (dd TX12_sum_0 11 rfl) 0 rfl ?_
  refine ok_bipush (v := (43 : Int32)) (dd TX12_sum_0 12 rfl) (by decide) ?_
  refine ok_callVI (cn := 12) [.int (43 : Int32)] [] (fun b7 => C_X12_isNext Γ b7 (43 : Int32)) rfl cy_X12_isNext ml_RX12_217 im_X12_isNext se_X12_isNext (by omega) (Nat.le_of_ble_eq_true rfl) rfl (dd TX12_sum_0 13 rfl) (fun v8 => ?_)
  refine ok_istore_n (lv' := [(2, .int v8), (0, va_rf (some this)), (1, .int x1)]) (dd TX12_sum_0 14 rfl) (by decide) (by first | rfl | (simp only [List.filter, cat_rf]; rfl)) ?_
  refine ok_aload_n (dd TX12_sum_0 15 rfl) 1 rfl ?_
  refine ok_dup (dd TX12_sum_0 16 rfl) (by first | rfl | exact cat_rf _) ?_
  refine ok_gI fl_RX12_211 rfl (dd TX12_sum_0 17 rfl) (fun v9 => ?_)
  refine ok_iconst (v := (1 : Int32)) (dd TX12_sum_0 18 rfl) (by decide) ?_
  refine ok_iadd (dd TX12_sum_0 19 rfl) ?_
  refine ok_wI fl_RX12_211 (Or.inl rfl) (tyX12_ok 44 (by decide)) (by decide) rfl (dd TX12_sum_0 20 rfl) ?_
  refine ok_aload_n (dd TX12_sum_0 21 rfl) 1 rfl ?_
  refine ok_callVI (cn := 12) [] [] (fun b10 => hr_X12_part b10) rfl cy_X12_part ml_RX12_223 im_X12_part se_X12_part (Nat.le_refl _) (Nat.le_of_ble_eq_true rfl) rfl (dd TX12_sum_0 22 rfl) (fun v11 => ?_)
  refine ok_istore_n (lv' := [(3, .int v11), (2, .int v8), (0, va_rf (some this)), (1, .int x1)]) (dd TX12_sum_0 23 rfl) (by decide) (by first | rfl | (simp only [List.filter, cat_rf]; rfl)) ?_
  refine ok_iload_n (dd TX12_sum_0 24 rfl) 1 rfl ?_
  refine ok_if_eq (tgt := 55) (dd TX12_sum_0 25 rfl) (by decide) ?_ ?_
  · refine ok_iload_n (dd TX12_sum_0 30 rfl) 3 rfl ?_
    refine ok_iload_n (dd TX12_sum_0 31 rfl) 0 rfl ?_
    refine ok_isub (dd TX12_sum_0 32 rfl) ?_
    refine ok_sub [2] rfl ?_
    exact O_X12_sum_L58 Γ D hB r_X12_expr hr_X12_expr r_X12_sum hr_X12_sum r_X12_part hr_X12_part r_X12_factor hr_X12_factor k5 hk5 this (x1 - v11)
  · refine ok_iload_n (dd TX12_sum_0 26 rfl) 3 rfl ?_
    refine ok_iload_n (dd TX12_sum_0 27 rfl) 0 rfl ?_
    refine ok_iadd (dd TX12_sum_0 28 rfl) ?_
    refine ok_goto (tgt := 58) (dd TX12_sum_0 29 rfl) (by decide) ?_
    refine ok_sub [2] rfl ?_
    exact O_X12_sum_L58 Γ D hB r_X12_expr hr_X12_expr r_X12_sum hr_X12_sum r_X12_part hr_X12_part r_X12_factor hr_X12_factor k5 hk5 this (x1 + v11)
def F_X12_sum_L5 (r_X12_expr : Nat → M Int32) (r_X12_sum : Nat → M Int32) (r_X12_part : Nat → M Int32) (r_X12_factor : Nat → M Int32) : Nat → Nat → Int32 → M Int32
  | 0 => fun _ _ => fl
  | n + 1 => fun this x1 => bn (pRc 12 (some this)) fun b3 => bn (F_X12_isNext b3 (43 : Int32)) fun v4 => if ¬ v4 = 0 then F_X12_sum_L23 r_X12_expr r_X12_sum r_X12_part r_X12_factor (F_X12_sum_L5 r_X12_expr r_X12_sum r_X12_part r_X12_factor n) this x1 else bn (pRc 12 (some this)) fun b5 => bn (F_X12_isNext b5 (45 : Int32)) fun v6 => if v6 = 0 then rt x1 else F_X12_sum_L23 r_X12_expr r_X12_sum r_X12_part r_X12_factor (F_X12_sum_L5 r_X12_expr r_X12_sum r_X12_part r_X12_factor n) this x1
set_option maxRecDepth 100000 in
theorem O_X12_sum_L5 (Γ : Gam) (D : Nat) (hB : 0 ≤ D) (r_X12_expr : Nat → M Int32) (hr_X12_expr : ∀ (b : Nat), Ct Γ mX12_expr D vI [va_rf (some b)] (r_X12_expr b)) (r_X12_sum : Nat → M Int32) (hr_X12_sum : ∀ (b : Nat), Ct Γ mX12_sum D vI [va_rf (some b)] (r_X12_sum b)) (r_X12_part : Nat → M Int32) (hr_X12_part : ∀ (b : Nat), Ct Γ mX12_part D vI [va_rf (some b)] (r_X12_part b)) (r_X12_factor : Nat → M Int32) (hr_X12_factor : ∀ (b : Nat), Ct Γ mX12_factor D vI [va_rf (some b)] (r_X12_factor b)) (n : Nat) : ∀ (this : Nat) (x1 : Int32), Ok Γ mX12_sum (D + 1) (qo Γ vI) 5 [(0, va_rf (some this)), (1, .int x1)] [] (F_X12_sum_L5 r_X12_expr r_X12_sum r_X12_part r_X12_factor n this x1) := by
  induction n with
  | zero => intro this x1; exact ok_fl
  | succ n ih =>
    intro this x1
    rw [F_X12_sum_L5]
    refine ok_aload_n (dd TX12_sum_0 3 rfl) 0 rfl ?_
    refine ok_bipush (v := (43 : Int32)) (dd TX12_sum_0 4 rfl) (by decide) ?_
    refine ok_callVI (cn := 12) [.int (43 : Int32)] [] (fun b3 => C_X12_isNext Γ b3 (43 : Int32)) rfl cy_X12_isNext ml_RX12_217 im_X12_isNext se_X12_isNext (by omega) (Nat.le_of_ble_eq_true rfl) rfl (dd TX12_sum_0 5 rfl) (fun v4 => ?_)
    refine ok_if_ne (tgt := 23) (dd TX12_sum_0 6 rfl) (by decide) ?_ ?_
    · exact O_X12_sum_L23 Γ D hB r_X12_expr hr_X12_expr r_X12_sum hr_X12_sum r_X12_part hr_X12_part r_X12_factor hr_X12_factor (F_X12_sum_L5 r_X12_expr r_X12_sum r_X12_part r_X12_factor n) ih this x1
    · refine ok_aload_n (dd TX12_sum_0 7 rfl) 0 rfl ?_
      refine ok_bipush (v := (45 : Int32)) (dd TX12_sum_0 8 rfl) (by decide) ?_
      refine ok_callVI (cn := 12) [.int (45 : Int32)] [] (fun b5 => C_X12_isNext Γ b5 (45 : Int32)) rfl cy_X12_isNext ml_RX12_217 im_X12_isNext se_X12_isNext (by omega) (Nat.le_of_ble_eq_true rfl) rfl (dd TX12_sum_0 9 rfl) (fun v6 => ?_)
      refine ok_if_eq (tgt := 62) (dd TX12_sum_0 10 rfl) (by decide) ?_ ?_
      · refine ok_iload_n (dd TX12_sum_0 35 rfl) 1 rfl ?_
        exact ok_ireturn (dd TX12_sum_0 36 rfl) rfl
      · exact O_X12_sum_L23 Γ D hB r_X12_expr hr_X12_expr r_X12_sum hr_X12_sum r_X12_part hr_X12_part r_X12_factor hr_X12_factor (F_X12_sum_L5 r_X12_expr r_X12_sum r_X12_part r_X12_factor n) ih this x1
def F_X12_sum_B (r_X12_expr : Nat → M Int32) (r_X12_sum : Nat → M Int32) (r_X12_part : Nat → M Int32) (r_X12_factor : Nat → M Int32) (this : Nat) : M Int32 := bn (pRc 12 (some this)) fun b1 => bn (r_X12_part b1) fun v2 => F_X12_sum_L5 r_X12_expr r_X12_sum r_X12_part r_X12_factor FU this v2
set_option maxRecDepth 100000 in
theorem C_X12_sum_B (Γ : Gam) (D : Nat) (hB : 0 ≤ D) (r_X12_expr : Nat → M Int32) (hr_X12_expr : ∀ (b : Nat), Ct Γ mX12_expr D vI [va_rf (some b)] (r_X12_expr b)) (r_X12_sum : Nat → M Int32) (hr_X12_sum : ∀ (b : Nat), Ct Γ mX12_sum D vI [va_rf (some b)] (r_X12_sum b)) (r_X12_part : Nat → M Int32) (hr_X12_part : ∀ (b : Nat), Ct Γ mX12_part D vI [va_rf (some b)] (r_X12_part b)) (r_X12_factor : Nat → M Int32) (hr_X12_factor : ∀ (b : Nat), Ct Γ mX12_factor D vI [va_rf (some b)] (r_X12_factor b)) (this : Nat) : Ct Γ mX12_sum (D + 1) vI [va_rf (some this)] (F_X12_sum_B r_X12_expr r_X12_sum r_X12_part r_X12_factor this) := by
  refine ct_in (lv := [(0, va_rf (some this))]) (by decide) (by first | rfl | (simp only [lv_args, cat_rf]; rfl)) (by first | exact Nat.le_of_ble_eq_true rfl | (rw [lg_len]; simp only [List.map_cons, List.map_nil, cat_rf]; exact Nat.le_of_ble_eq_true rfl)) ?_
  unfold F_X12_sum_B
  refine ok_aload_n (dd TX12_sum_0 0 rfl) 0 rfl ?_
  refine ok_callVI (cn := 12) [] [] (fun b1 => hr_X12_part b1) rfl cy_X12_part ml_RX12_223 im_X12_part se_X12_part (Nat.le_refl _) (Nat.le_of_ble_eq_true rfl) rfl (dd TX12_sum_0 1 rfl) (fun v2 => ?_)
  refine ok_istore_n (lv' := [(1, .int v2), (0, va_rf (some this))]) (dd TX12_sum_0 2 rfl) (by decide) (by first | rfl | (simp only [List.filter, cat_rf]; rfl)) ?_
  refine ok_sub [1, 0] rfl ?_
  exact O_X12_sum_L5 Γ D hB r_X12_expr hr_X12_expr r_X12_sum hr_X12_sum r_X12_part hr_X12_part r_X12_factor hr_X12_factor FU this v2
def F_X12_part_L66 (r_X12_expr : Nat → M Int32) (r_X12_sum : Nat → M Int32) (r_X12_part : Nat → M Int32) (r_X12_factor : Nat → M Int32) (k5 : Nat → Int32 → M Int32) (this : Nat) (y0 : Int32) : M Int32 := k5 this y0
set_option maxRecDepth 100000 in
theorem O_X12_part_L66 (Γ : Gam) (D : Nat) (hB : 0 ≤ D) (r_X12_expr : Nat → M Int32) (hr_X12_expr : ∀ (b : Nat), Ct Γ mX12_expr D vI [va_rf (some b)] (r_X12_expr b)) (r_X12_sum : Nat → M Int32) (hr_X12_sum : ∀ (b : Nat), Ct Γ mX12_sum D vI [va_rf (some b)] (r_X12_sum b)) (r_X12_part : Nat → M Int32) (hr_X12_part : ∀ (b : Nat), Ct Γ mX12_part D vI [va_rf (some b)] (r_X12_part b)) (r_X12_factor : Nat → M Int32) (hr_X12_factor : ∀ (b : Nat), Ct Γ mX12_factor D vI [va_rf (some b)] (r_X12_factor b)) (k5 : Nat → Int32 → M Int32) (hk5 : ∀ (z0 : Nat) (z1 : Int32), Ok Γ mX12_part (D + 1) (qo Γ vI) 5 [(0, va_rf (some z0)), (1, .int z1)] [] (k5 z0 z1)) (this : Nat) (y0 : Int32) : Ok Γ mX12_part (D + 1) (qo Γ vI) 66 [(0, va_rf (some this))] [.int y0] (F_X12_part_L66 r_X12_expr r_X12_sum r_X12_part r_X12_factor k5 this y0) := by
  unfold F_X12_part_L66
  refine ok_istore_n (lv' := [(1, .int y0), (0, va_rf (some this))]) (dd TX12_part_0 37 rfl) (by decide) (by first | rfl | (simp only [List.filter, cat_rf]; rfl)) ?_
  refine ok_goto (tgt := 5) (dd TX12_part_0 38 rfl) (by decide) ?_
  refine ok_sub [1, 0] rfl ?_
  exact hk5 this y0
def F_X12_part_L23 (r_X12_expr : Nat → M Int32) (r_X12_sum : Nat → M Int32) (r_X12_part : Nat → M Int32) (r_X12_factor : Nat → M Int32) (k5 : Nat → Int32 → M Int32) (this : Nat) (x1 : Int32) : M Int32 := bn (pRc 12 (some this)) fun b7 => bn (F_X12_isNext b7 (42 : Int32)) fun v8 => bn (gI 12 44 (some this)) fun v9 => bn (wI 12 44 (some this) (v9 + (1 : Int32))) fun _ => bn (pRc 12 (some this)) fun b10 => bn (r_X12_factor b10) fun v11 => if v8 = 0 then if ¬ v11 = 0 then bn (dvI x1 v11) fun _ => F_X12_part_L66 r_X12_expr r_X12_sum r_X12_part r_X12_factor k5 this (x1 / v11) else F_X12_part_L66 r_X12_expr r_X12_sum r_X12_part r_X12_factor k5 this (0 : Int32) else F_X12_part_L66 r_X12_expr r_X12_sum r_X12_part r_X12_factor k5 this (x1 * v11)
set_option maxRecDepth 100000 in
theorem O_X12_part_L23 (Γ : Gam) (D : Nat) (hB : 0 ≤ D) (r_X12_expr : Nat → M Int32) (hr_X12_expr : ∀ (b : Nat), Ct Γ mX12_expr D vI [va_rf (some b)] (r_X12_expr b)) (r_X12_sum : Nat → M Int32) (hr_X12_sum : ∀ (b : Nat), Ct Γ mX12_sum D vI [va_rf (some b)] (r_X12_sum b)) (r_X12_part : Nat → M Int32) (hr_X12_part : ∀ (b : Nat), Ct Γ mX12_part D vI [va_rf (some b)] (r_X12_part b)) (r_X12_factor : Nat → M Int32) (hr_X12_factor : ∀ (b : Nat), Ct Γ mX12_factor D vI [va_rf (some b)] (r_X12_factor b)) (k5 : Nat → Int32 → M Int32) (hk5 : ∀ (z0 : Nat) (z1 : Int32), Ok Γ mX12_part (D + 1) (qo Γ vI) 5 [(0, va_rf (some z0)), (1, .int z1)] [] (k5 z0 z1)) (this : Nat) (x1 : Int32) : Ok Γ mX12_part (D + 1) (qo Γ vI) 23 [(0, va_rf (some this)), (1, .int x1)] [] (F_X12_part_L23 r_X12_expr r_X12_sum r_X12_part r_X12_factor k5 this x1) := by
  unfold F_X12_part_L23
  refine ok_aload_n (dd TX12_part_0 11 rfl) 0 rfl ?_
  refine ok_bipush (v := (42 : Int32)) (dd TX12_part_0 12 rfl) (by decide) ?_
  refine ok_callVI (cn := 12) [.int (42 : Int32)] [] (fun b7 => C_X12_isNext Γ b7 (42 : Int32)) rfl cy_X12_isNext ml_RX12_217 im_X12_isNext se_X12_isNext (by omega) (Nat.le_of_ble_eq_true rfl) rfl (dd TX12_part_0 13 rfl) (fun v8 => ?_)
  refine ok_istore_n (lv' := [(2, .int v8), (0, va_rf (some this)), (1, .int x1)]) (dd TX12_part_0 14 rfl) (by decide) (by first | rfl | (simp only [List.filter, cat_rf]; rfl)) ?_
  refine ok_aload_n (dd TX12_part_0 15 rfl) 1 rfl ?_
  refine ok_dup (dd TX12_part_0 16 rfl) (by first | rfl | exact cat_rf _) ?_
  refine ok_gI fl_RX12_211 rfl (dd TX12_part_0 17 rfl) (fun v9 => ?_)
  refine ok_iconst (v := (1 : Int32)) (dd TX12_part_0 18 rfl) (by decide) ?_
  refine ok_iadd (dd TX12_part_0 19 rfl) ?_
  refine ok_wI fl_RX12_211 (Or.inl rfl) (tyX12_ok 44 (by decide)) (by decide) rfl (dd TX12_part_0 20 rfl) ?_
  refine ok_aload_n (dd TX12_part_0 21 rfl) 1 rfl ?_
  refine ok_callVI (cn := 12) [] [] (fun b10 => hr_X12_factor b10) rfl cy_X12_factor ml_RX12_226 im_X12_factor se_X12_factor (Nat.le_refl _) (Nat.le_of_ble_eq_true rfl) rfl (dd TX12_part_0 22 rfl) (fun v11 => ?_)
  refine ok_istore_n (lv' := [(3, .int v11), (2, .int v8), (0, va_rf (some this)), (1, .int x1)]) (dd TX12_part_0 23 rfl) (by decide) (by first | rfl | (simp only [List.filter, cat_rf]; rfl)) ?_
  refine ok_iload_n (dd TX12_part_0 24 rfl) 1 rfl ?_
  refine ok_if_eq (tgt := 55) (dd TX12_part_0 25 rfl) (by decide) ?_ ?_
  · refine ok_iload_n (dd TX12_part_0 30 rfl) 0 rfl ?_
    refine ok_if_ne (tgt := 63) (dd TX12_part_0 31 rfl) (by decide) ?_ ?_
    · refine ok_iload_n (dd TX12_part_0 34 rfl) 3 rfl ?_
      refine ok_iload_n (dd TX12_part_0 35 rfl) 0 rfl ?_
      refine ok_idiv (dd TX12_part_0 36 rfl) ?_
      refine ok_sub [2] rfl ?_
      exact O_X12_part_L66 Γ D hB r_X12_expr hr_X12_expr r_X12_sum hr_X12_sum r_X12_part hr_X12_part r_X12_factor hr_X12_factor k5 hk5 this (x1 / v11)
    · refine ok_iconst (v := (0 : Int32)) (dd TX12_part_0 32 rfl) (by decide) ?_
      refine ok_goto (tgt := 66) (dd TX12_part_0 33 rfl) (by decide) ?_
      refine ok_sub [2] rfl ?_
      exact O_X12_part_L66 Γ D hB r_X12_expr hr_X12_expr r_X12_sum hr_X12_sum r_X12_part hr_X12_part r_X12_factor hr_X12_factor k5 hk5 this (0 : Int32)
  · refine ok_iload_n (dd TX12_part_0 26 rfl) 3 rfl ?_
    refine ok_iload_n (dd TX12_part_0 27 rfl) 0 rfl ?_
    refine ok_imul (dd TX12_part_0 28 rfl) ?_
    refine ok_goto (tgt := 66) (dd TX12_part_0 29 rfl) (by decide) ?_
    refine ok_sub [2] rfl ?_
    exact O_X12_part_L66 Γ D hB r_X12_expr hr_X12_expr r_X12_sum hr_X12_sum r_X12_part hr_X12_part r_X12_factor hr_X12_factor k5 hk5 this (x1 * v11)
def F_X12_part_L5 (r_X12_expr : Nat → M Int32) (r_X12_sum : Nat → M Int32) (r_X12_part : Nat → M Int32) (r_X12_factor : Nat → M Int32) : Nat → Nat → Int32 → M Int32
  | 0 => fun _ _ => fl
  | n + 1 => fun this x1 => bn (pRc 12 (some this)) fun b3 => bn (F_X12_isNext b3 (42 : Int32)) fun v4 => if ¬ v4 = 0 then F_X12_part_L23 r_X12_expr r_X12_sum r_X12_part r_X12_factor (F_X12_part_L5 r_X12_expr r_X12_sum r_X12_part r_X12_factor n) this x1 else bn (pRc 12 (some this)) fun b5 => bn (F_X12_isNext b5 (47 : Int32)) fun v6 => if v6 = 0 then rt x1 else F_X12_part_L23 r_X12_expr r_X12_sum r_X12_part r_X12_factor (F_X12_part_L5 r_X12_expr r_X12_sum r_X12_part r_X12_factor n) this x1
set_option maxRecDepth 100000 in
theorem O_X12_part_L5 (Γ : Gam) (D : Nat) (hB : 0 ≤ D) (r_X12_expr : Nat → M Int32) (hr_X12_expr : ∀ (b : Nat), Ct Γ mX12_expr D vI [va_rf (some b)] (r_X12_expr b)) (r_X12_sum : Nat → M Int32) (hr_X12_sum : ∀ (b : Nat), Ct Γ mX12_sum D vI [va_rf (some b)] (r_X12_sum b)) (r_X12_part : Nat → M Int32) (hr_X12_part : ∀ (b : Nat), Ct Γ mX12_part D vI [va_rf (some b)] (r_X12_part b)) (r_X12_factor : Nat → M Int32) (hr_X12_factor : ∀ (b : Nat), Ct Γ mX12_factor D vI [va_rf (some b)] (r_X12_factor b)) (n : Nat) : ∀ (this : Nat) (x1 : Int32), Ok Γ mX12_part (D + 1) (qo Γ vI) 5 [(0, va_rf (some this)), (1, .int x1)] [] (F_X12_part_L5 r_X12_expr r_X12_sum r_X12_part r_X12_factor n this x1) := by
  induction n with
  | zero => intro this x1; exact ok_fl
  | succ n ih =>
    intro this x1
    rw [F_X12_part_L5]
    refine ok_aload_n (dd TX12_part_0 3 rfl) 0 rfl ?_
    refine ok_bipush (v := (42 : Int32)) (dd TX12_part_0 4 rfl) (by decide) ?_
    refine ok_callVI (cn := 12) [.int (42 : Int32)] [] (fun b3 => C_X12_isNext Γ b3 (42 : Int32)) rfl cy_X12_isNext ml_RX12_217 im_X12_isNext se_X12_isNext (by omega) (Nat.le_of_ble_eq_true rfl) rfl (dd TX12_part_0 5 rfl) (fun v4 => ?_)
    refine ok_if_ne (tgt := 23) (dd TX12_part_0 6 rfl) (by decide) ?_ ?_
    · exact O_X12_part_L23 Γ D hB r_X12_expr hr_X12_expr r_X12_sum hr_X12_sum r_X12_part hr_X12_part r_X12_factor hr_X12_factor (F_X12_part_L5 r_X12_expr r_X12_sum r_X12_part r_X12_factor n) ih this x1
    · refine ok_aload_n (dd TX12_part_0 7 rfl) 0 rfl ?_
      refine ok_bipush (v := (47 : Int32)) (dd TX12_part_0 8 rfl) (by decide) ?_
      refine ok_callVI (cn := 12) [.int (47 : Int32)] [] (fun b5 => C_X12_isNext Γ b5 (47 : Int32)) rfl cy_X12_isNext ml_RX12_217 im_X12_isNext se_X12_isNext (by omega) (Nat.le_of_ble_eq_true rfl) rfl (dd TX12_part_0 9 rfl) (fun v6 => ?_)
      refine ok_if_eq (tgt := 70) (dd TX12_part_0 10 rfl) (by decide) ?_ ?_
      · refine ok_iload_n (dd TX12_part_0 39 rfl) 1 rfl ?_
        exact ok_ireturn (dd TX12_part_1 0 rfl) rfl
      · exact O_X12_part_L23 Γ D hB r_X12_expr hr_X12_expr r_X12_sum hr_X12_sum r_X12_part hr_X12_part r_X12_factor hr_X12_factor (F_X12_part_L5 r_X12_expr r_X12_sum r_X12_part r_X12_factor n) ih this x1
def F_X12_part_B (r_X12_expr : Nat → M Int32) (r_X12_sum : Nat → M Int32) (r_X12_part : Nat → M Int32) (r_X12_factor : Nat → M Int32) (this : Nat) : M Int32 := bn (pRc 12 (some this)) fun b1 => bn (r_X12_factor b1) fun v2 => F_X12_part_L5 r_X12_expr r_X12_sum r_X12_part r_X12_factor FU this v2
set_option maxRecDepth 100000 in
theorem C_X12_part_B (Γ : Gam) (D : Nat) (hB : 0 ≤ D) (r_X12_expr : Nat → M Int32) (hr_X12_expr : ∀ (b : Nat), Ct Γ mX12_expr D vI [va_rf (some b)] (r_X12_expr b)) (r_X12_sum : Nat → M Int32) (hr_X12_sum : ∀ (b : Nat), Ct Γ mX12_sum D vI [va_rf (some b)] (r_X12_sum b)) (r_X12_part : Nat → M Int32) (hr_X12_part : ∀ (b : Nat), Ct Γ mX12_part D vI [va_rf (some b)] (r_X12_part b)) (r_X12_factor : Nat → M Int32) (hr_X12_factor : ∀ (b : Nat), Ct Γ mX12_factor D vI [va_rf (some b)] (r_X12_factor b)) (this : Nat) : Ct Γ mX12_part (D + 1) vI [va_rf (some this)] (F_X12_part_B r_X12_expr r_X12_sum r_X12_part r_X12_factor this) := by
  refine ct_in (lv := [(0, va_rf (some this))]) (by decide) (by first | rfl | (simp only [lv_args, cat_rf]; rfl)) (by first | exact Nat.le_of_ble_eq_true rfl | (rw [lg_len]; simp only [List.map_cons, List.map_nil, cat_rf]; exact Nat.le_of_ble_eq_true rfl)) ?_
  unfold F_X12_part_B
  refine ok_aload_n (dd TX12_part_0 0 rfl) 0 rfl ?_
  refine ok_callVI (cn := 12) [] [] (fun b1 => hr_X12_factor b1) rfl cy_X12_factor ml_RX12_226 im_X12_factor se_X12_factor (Nat.le_refl _) (Nat.le_of_ble_eq_true rfl) rfl (dd TX12_part_0 1 rfl) (fun v2 => ?_)
  refine ok_istore_n (lv' := [(1, .int v2), (0, va_rf (some this))]) (dd TX12_part_0 2 rfl) (by decide) (by first | rfl | (simp only [List.filter, cat_rf]; rfl)) ?_
  refine ok_sub [1, 0] rfl ?_
  exact O_X12_part_L5 Γ D hB r_X12_expr hr_X12_expr r_X12_sum hr_X12_sum r_X12_part hr_X12_part r_X12_factor hr_X12_factor FU this v2
def F_X12_factor_L171 (r_X12_expr : Nat → M Int32) (r_X12_sum : Nat → M Int32) (r_X12_part : Nat → M Int32) (r_X12_factor : Nat → M Int32) (x4 : Int32) (x5 : Int32) (y0 : Int32) (y1 : Int32) : M Int32 := if ¬ y1 = y0 then rt x5 else rt x4
set_option maxRecDepth 100000 in
theorem O_X12_factor_L171 (Γ : Gam) (D : Nat) (hB : 0 ≤ D) (r_X12_expr : Nat → M Int32) (hr_X12_expr : ∀ (b : Nat), Ct Γ mX12_expr D vI [va_rf (some b)] (r_X12_expr b)) (r_X12_sum : Nat → M Int32) (hr_X12_sum : ∀ (b : Nat), Ct Γ mX12_sum D vI [va_rf (some b)] (r_X12_sum b)) (r_X12_part : Nat → M Int32) (hr_X12_part : ∀ (b : Nat), Ct Γ mX12_part D vI [va_rf (some b)] (r_X12_part b)) (r_X12_factor : Nat → M Int32) (hr_X12_factor : ∀ (b : Nat), Ct Γ mX12_factor D vI [va_rf (some b)] (r_X12_factor b)) (x4 : Int32) (x5 : Int32) (y0 : Int32) (y1 : Int32) : Ok Γ mX12_factor (D + 1) (qo Γ vI) 171 [(4, .int x4), (5, .int x5)] [.int y0, .int y1] (F_X12_factor_L171 r_X12_expr r_X12_sum r_X12_part r_X12_factor x4 x5 y0 y1) := by
  unfold F_X12_factor_L171
  refine ok_icmp_ne (tgt := 179) (dd TX12_factor_2 22 rfl) (by decide) ?_ ?_
  · refine ok_iload (dd TX12_factor_2 25 rfl) 1 rfl ?_
    exact ok_ireturn (dd TX12_factor_2 26 rfl) rfl
  · refine ok_iload (dd TX12_factor_2 23 rfl) 0 rfl ?_
    refine ok_goto (tgt := 181) (dd TX12_factor_2 24 rfl) (by decide) ?_
    exact ok_ireturn (dd TX12_factor_2 26 rfl) rfl
def F_X12_factor_L159 (r_X12_expr : Nat → M Int32) (r_X12_sum : Nat → M Int32) (r_X12_part : Nat → M Int32) (r_X12_factor : Nat → M Int32) (x4 : Int32) (x5 : Int32) (y0 : Int32) : M Int32 := if x5 ≤ x4 then F_X12_factor_L171 r_X12_expr r_X12_sum r_X12_part r_X12_factor x4 x5 (0 : Int32) y0 else F_X12_factor_L171 r_X12_expr r_X12_sum r_X12_part r_X12_factor x4 x5 (1 : Int32) y0
set_option maxRecDepth 100000 in
theorem O_X12_factor_L159 (Γ : Gam) (D : Nat) (hB : 0 ≤ D) (r_X12_expr : Nat → M Int32) (hr_X12_expr : ∀ (b : Nat), Ct Γ mX12_expr D vI [va_rf (some b)] (r_X12_expr b)) (r_X12_sum : Nat → M Int32) (hr_X12_sum : ∀ (b : Nat), Ct Γ mX12_sum D vI [va_rf (some b)] (r_X12_sum b)) (r_X12_part : Nat → M Int32) (hr_X12_part : ∀ (b : Nat), Ct Γ mX12_part D vI [va_rf (some b)] (r_X12_part b)) (r_X12_factor : Nat → M Int32) (hr_X12_factor : ∀ (b : Nat), Ct Γ mX12_factor D vI [va_rf (some b)] (r_X12_factor b)) (x4 : Int32) (x5 : Int32) (y0 : Int32) : Ok Γ mX12_factor (D + 1) (qo Γ vI) 159 [(4, .int x4), (5, .int x5)] [.int y0] (F_X12_factor_L159 r_X12_expr r_X12_sum r_X12_part r_X12_factor x4 x5 y0) := by
  unfold F_X12_factor_L159
  refine ok_iload (dd TX12_factor_2 16 rfl) 0 rfl ?_
  refine ok_iload (dd TX12_factor_2 17 rfl) 1 rfl ?_
  refine ok_icmp_ge (tgt := 170) (dd TX12_factor_2 18 rfl) (by decide) ?_ ?_
  · refine ok_iconst (v := (0 : Int32)) (dd TX12_factor_2 21 rfl) (by decide) ?_
    exact O_X12_factor_L171 Γ D hB r_X12_expr hr_X12_expr r_X12_sum hr_X12_sum r_X12_part hr_X12_part r_X12_factor hr_X12_factor x4 x5 (0 : Int32) y0
  · refine ok_iconst (v := (1 : Int32)) (dd TX12_factor_2 19 rfl) (by decide) ?_
    refine ok_goto (tgt := 171) (dd TX12_factor_2 20 rfl) (by decide) ?_
    exact O_X12_factor_L171 Γ D hB r_X12_expr hr_X12_expr r_X12_sum hr_X12_sum r_X12_part hr_X12_part r_X12_factor hr_X12_factor x4 x5 (1 : Int32) y0
def F_X12_factor_L82 (r_X12_expr : Nat → M Int32) (r_X12_sum : Nat → M Int32) (r_X12_part : Nat → M Int32) (r_X12_factor : Nat → M Int32) (this : Nat) (x2 : Int32) (x3 : Int32) : M Int32 := if ¬ x2 = (3 : Int32) then bn (gI 12 44 (some this)) fun v12 => bn (wI 12 44 (some this) (v12 + (1 : Int32))) fun _ => bn (pRc 12 (some this)) fun b13 => bn (r_X12_expr b13) fun v14 => bn (gI 12 44 (some this)) fun v15 => bn (wI 12 44 (some this) (v15 + (1 : Int32))) fun _ => bn (pRc 12 (some this)) fun b16 => bn (r_X12_expr b16) fun v17 => bn (gI 12 44 (some this)) fun v18 => bn (wI 12 44 (some this) (v18 + (1 : Int32))) fun _ => if ¬ x3 = (8 : Int32) then F_X12_factor_L159 r_X12_expr r_X12_sum r_X12_part r_X12_factor v14 v17 (0 : Int32) else F_X12_factor_L159 r_X12_expr r_X12_sum r_X12_part r_X12_factor v14 v17 (1 : Int32) else bn (pRc 12 (some this)) fun b19 => bn (r_X12_expr b19) fun v20 => bn (gI 12 44 (some this)) fun v21 => bn (wI 12 44 (some this) (v21 + (1 : Int32))) fun _ => rt v20
set_option maxRecDepth 100000 in
theorem O_X12_factor_L82 (Γ : Gam) (D : Nat) (hB : 0 ≤ D) (r_X12_expr : Nat → M Int32) (hr_X12_expr : ∀ (b : Nat), Ct Γ mX12_expr D vI [va_rf (some b)] (r_X12_expr b)) (r_X12_sum : Nat → M Int32) (hr_X12_sum : ∀ (b : Nat), Ct Γ mX12_sum D vI [va_rf (some b)] (r_X12_sum b)) (r_X12_part : Nat → M Int32) (hr_X12_part : ∀ (b : Nat), Ct Γ mX12_part D vI [va_rf (some b)] (r_X12_part b)) (r_X12_factor : Nat → M Int32) (hr_X12_factor : ∀ (b : Nat), Ct Γ mX12_factor D vI [va_rf (some b)] (r_X12_factor b)) (this : Nat) (x2 : Int32) (x3 : Int32) : Ok Γ mX12_factor (D + 1) (qo Γ vI) 82 [(0, va_rf (some this)), (2, .int x2), (3, .int x3)] [] (F_X12_factor_L82 r_X12_expr r_X12_sum r_X12_part r_X12_factor this x2 x3) := by
  unfold F_X12_factor_L82
  refine ok_iload_n (dd TX12_factor_1 12 rfl) 1 rfl ?_
  refine ok_iconst (v := (3 : Int32)) (dd TX12_factor_1 13 rfl) (by decide) ?_
  refine ok_icmp_ne (tgt := 106) (dd TX12_factor_1 14 rfl) (by decide) ?_ ?_
  · refine ok_aload_n (dd TX12_factor_1 26 rfl) 0 rfl ?_
    refine ok_dup (dd TX12_factor_1 27 rfl) (by first | rfl | exact cat_rf _) ?_
    refine ok_gI fl_RX12_211 rfl (dd TX12_factor_1 28 rfl) (fun v12 => ?_)
    refine ok_iconst (v := (1 : Int32)) (dd TX12_factor_1 29 rfl) (by decide) ?_
    refine ok_iadd (dd TX12_factor_1 30 rfl) ?_
    refine ok_wI fl_RX12_211 (Or.inl rfl) (tyX12_ok 44 (by decide)) (by decide) rfl (dd TX12_factor_1 31 rfl) ?_
    refine ok_aload_n (dd TX12_factor_1 32 rfl) 0 rfl ?_
    refine ok_callVI (cn := 12) [] [] (fun b13 => hr_X12_expr b13) rfl cy_X12_expr ml_RX12_220 im_X12_expr se_X12_expr (Nat.le_refl _) (Nat.le_of_ble_eq_true rfl) rfl (dd TX12_factor_1 33 rfl) (fun v14 => ?_)
    refine ok_istore (lv' := [(4, .int v14), (0, va_rf (some this)), (2, .int x2), (3, .int x3)]) (dd TX12_factor_1 34 rfl) (by decide) (by first | rfl | (simp only [List.filter, cat_rf]; rfl)) ?_
    refine ok_aload_n (dd TX12_factor_1 35 rfl) 1 rfl ?_
    refine ok_dup (dd TX12_factor_1 36 rfl) (by first | rfl | exact cat_rf _) ?_
    refine ok_gI fl_RX12_211 rfl (dd TX12_factor_1 37 rfl) (fun v15 => ?_)
    refine ok_iconst (v := (1 : Int32)) (dd TX12_factor_1 38 rfl) (by decide) ?_
    refine ok_iadd (dd TX12_factor_1 39 rfl) ?_
    refine ok_wI fl_RX12_211 (Or.inl rfl) (tyX12_ok 44 (by decide)) (by decide) rfl (dd TX12_factor_2 0 rfl) ?_
    refine ok_aload_n (dd TX12_factor_2 1 rfl) 1 rfl ?_
    refine ok_callVI (cn := 12) [] [] (fun b16 => hr_X12_expr b16) rfl cy_X12_expr ml_RX12_220 im_X12_expr se_X12_expr (Nat.le_refl _) (Nat.le_of_ble_eq_true rfl) rfl (dd TX12_factor_2 2 rfl) (fun v17 => ?_)
    refine ok_istore (lv' := [(5, .int v17), (4, .int v14), (0, va_rf (some this)), (2, .int x2), (3, .int x3)]) (dd TX12_factor_2 3 rfl) (by decide) (by first | rfl | (simp only [List.filter, cat_rf]; rfl)) ?_
    refine ok_aload_n (dd TX12_factor_2 4 rfl) 2 rfl ?_
    refine ok_dup (dd TX12_factor_2 5 rfl) (by first | rfl | exact cat_rf _) ?_
    refine ok_gI fl_RX12_211 rfl (dd TX12_factor_2 6 rfl) (fun v18 => ?_)
    refine ok_iconst (v := (1 : Int32)) (dd TX12_factor_2 7 rfl) (by decide) ?_
    refine ok_iadd (dd TX12_factor_2 8 rfl) ?_
    refine ok_wI fl_RX12_211 (Or.inl rfl) (tyX12_ok 44 (by decide)) (by decide) rfl (dd TX12_factor_2 9 rfl) ?_
    refine ok_iload_n (dd TX12_factor_2 10 rfl) 4 rfl ?_
    refine ok_bipush (v := (8 : Int32)) (dd TX12_factor_2 11 rfl) (by decide) ?_
    refine ok_icmp_ne (tgt := 158) (dd TX12_factor_2 12 rfl) (by decide) ?_ ?_
    · refine ok_iconst (v := (0 : Int32)) (dd TX12_factor_2 15 rfl) (by decide) ?_
      refine ok_sub [1, 0] rfl ?_
      exact O_X12_factor_L159 Γ D hB r_X12_expr hr_X12_expr r_X12_sum hr_X12_sum r_X12_part hr_X12_part r_X12_factor hr_X12_factor v14 v17 (0 : Int32)
    · refine ok_iconst (v := (1 : Int32)) (dd TX12_factor_2 13 rfl) (by decide) ?_
      refine ok_goto (tgt := 159) (dd TX12_factor_2 14 rfl) (by decide) ?_
      refine ok_sub [1, 0] rfl ?_
      exact O_X12_factor_L159 Γ D hB r_X12_expr hr_X12_expr r_X12_sum hr_X12_sum r_X12_part hr_X12_part r_X12_factor hr_X12_factor v14 v17 (1 : Int32)
  · refine ok_aload_n (dd TX12_factor_1 15 rfl) 0 rfl ?_
    refine ok_callVI (cn := 12) [] [] (fun b19 => hr_X12_expr b19) rfl cy_X12_expr ml_RX12_220 im_X12_expr se_X12_expr (Nat.le_refl _) (Nat.le_of_ble_eq_true rfl) rfl (dd TX12_factor_1 16 rfl) (fun v20 => ?_)
    refine ok_istore (lv' := [(4, .int v20), (0, va_rf (some this)), (2, .int x2), (3, .int x3)]) (dd TX12_factor_1 17 rfl) (by decide) (by first | rfl | (simp only [List.filter, cat_rf]; rfl)) ?_
    refine ok_aload_n (dd TX12_factor_1 18 rfl) 1 rfl ?_
    refine ok_dup (dd TX12_factor_1 19 rfl) (by first | rfl | exact cat_rf _) ?_
    refine ok_gI fl_RX12_211 rfl (dd TX12_factor_1 20 rfl) (fun v21 => ?_)
    refine ok_iconst (v := (1 : Int32)) (dd TX12_factor_1 21 rfl) (by decide) ?_
    refine ok_iadd (dd TX12_factor_1 22 rfl) ?_
    refine ok_wI fl_RX12_211 (Or.inl rfl) (tyX12_ok 44 (by decide)) (by decide) rfl (dd TX12_factor_1 23 rfl) ?_
    refine ok_iload (dd TX12_factor_1 24 rfl) 0 rfl ?_
    exact ok_ireturn (dd TX12_factor_1 25 rfl) rfl
def F_X12_factor_L65 (r_X12_expr : Nat → M Int32) (r_X12_sum : Nat → M Int32) (r_X12_part : Nat → M Int32) (r_X12_factor : Nat → M Int32) (this : Nat) (x2 : Int32) (x3 : Int32) : M Int32 := if ¬ x2 = (3 : Int32) then F_X12_factor_L82 r_X12_expr r_X12_sum r_X12_part r_X12_factor this x2 x3 else if ¬ x3 = (45 : Int32) then F_X12_factor_L82 r_X12_expr r_X12_sum r_X12_part r_X12_factor this x2 x3 else bn (pRc 12 (some this)) fun b10 => bn (r_X12_factor b10) fun v11 => rt (-v11)
set_option maxRecDepth 100000 in
theorem O_X12_factor_L65 (Γ : Gam) (D : Nat) (hB : 0 ≤ D) (r_X12_expr : Nat → M Int32) (hr_X12_expr : ∀ (b : Nat), Ct Γ mX12_expr D vI [va_rf (some b)] (r_X12_expr b)) (r_X12_sum : Nat → M Int32) (hr_X12_sum : ∀ (b : Nat), Ct Γ mX12_sum D vI [va_rf (some b)] (r_X12_sum b)) (r_X12_part : Nat → M Int32) (hr_X12_part : ∀ (b : Nat), Ct Γ mX12_part D vI [va_rf (some b)] (r_X12_part b)) (r_X12_factor : Nat → M Int32) (hr_X12_factor : ∀ (b : Nat), Ct Γ mX12_factor D vI [va_rf (some b)] (r_X12_factor b)) (this : Nat) (x2 : Int32) (x3 : Int32) : Ok Γ mX12_factor (D + 1) (qo Γ vI) 65 [(0, va_rf (some this)), (2, .int x2), (3, .int x3)] [] (F_X12_factor_L65 r_X12_expr r_X12_sum r_X12_part r_X12_factor this x2 x3) := by
  unfold F_X12_factor_L65
  refine ok_iload_n (dd TX12_factor_1 2 rfl) 1 rfl ?_
  refine ok_iconst (v := (3 : Int32)) (dd TX12_factor_1 3 rfl) (by decide) ?_
  refine ok_icmp_ne (tgt := 82) (dd TX12_factor_1 4 rfl) (by decide) ?_ ?_
  · exact O_X12_factor_L82 Γ D hB r_X12_expr hr_X12_expr r_X12_sum hr_X12_sum r_X12_part hr_X12_part r_X12_factor hr_X12_factor this x2 x3
  · refine ok_iload_n (dd TX12_factor_1 5 rfl) 2 rfl ?_
    refine ok_bipush (v := (45 : Int32)) (dd TX12_factor_1 6 rfl) (by decide) ?_
    refine ok_icmp_ne (tgt := 82) (dd TX12_factor_1 7 rfl) (by decide) ?_ ?_
    · exact O_X12_factor_L82 Γ D hB r_X12_expr hr_X12_expr r_X12_sum hr_X12_sum r_X12_part hr_X12_part r_X12_factor hr_X12_factor this x2 x3
    · refine ok_aload_n (dd TX12_factor_1 8 rfl) 0 rfl ?_
      refine ok_callVI (cn := 12) [] [] (fun b10 => hr_X12_factor b10) rfl cy_X12_factor ml_RX12_226 im_X12_factor se_X12_factor (Nat.le_refl _) (Nat.le_of_ble_eq_true rfl) rfl (dd TX12_factor_1 9 rfl) (fun v11 => ?_)
      refine ok_ineg (dd TX12_factor_1 10 rfl) ?_
      exact ok_ireturn (dd TX12_factor_1 11 rfl) rfl
def F_X12_factor_B (r_X12_expr : Nat → M Int32) (r_X12_sum : Nat → M Int32) (r_X12_part : Nat → M Int32) (r_X12_factor : Nat → M Int32) (this : Nat) : M Int32 := bn (gI 12 45 (some this)) fun v1 => bn (gI 12 44 (some this)) fun v2 => bn (gP 12 7 (some this)) fun v3 => bn (lI 192 v3 (((60 : Int32) * v1) + v2)) fun v4 => bn (gP 12 8 (some this)) fun v5 => bn (lI 200 v5 (((60 : Int32) * v1) + v2)) fun v6 => bn (gI 12 44 (some this)) fun v7 => bn (wI 12 44 (some this) (v7 + (1 : Int32))) fun _ => if ¬ v4 = (1 : Int32) then if ¬ v4 = (2 : Int32) then F_X12_factor_L65 r_X12_expr r_X12_sum r_X12_part r_X12_factor this v4 v6 else if v6 < (10 : Int32) then F_X12_factor_L65 r_X12_expr r_X12_sum r_X12_part r_X12_factor this v4 v6 else bn (gP 12 46 (some this)) fun v8 => bn (lI 352 v8 (v6 - (10 : Int32))) fun v9 => rt v9 else rt v6
set_option maxRecDepth 100000 in
theorem C_X12_factor_B (Γ : Gam) (D : Nat) (hB : 0 ≤ D) (r_X12_expr : Nat → M Int32) (hr_X12_expr : ∀ (b : Nat), Ct Γ mX12_expr D vI [va_rf (some b)] (r_X12_expr b)) (r_X12_sum : Nat → M Int32) (hr_X12_sum : ∀ (b : Nat), Ct Γ mX12_sum D vI [va_rf (some b)] (r_X12_sum b)) (r_X12_part : Nat → M Int32) (hr_X12_part : ∀ (b : Nat), Ct Γ mX12_part D vI [va_rf (some b)] (r_X12_part b)) (r_X12_factor : Nat → M Int32) (hr_X12_factor : ∀ (b : Nat), Ct Γ mX12_factor D vI [va_rf (some b)] (r_X12_factor b)) (this : Nat) : Ct Γ mX12_factor (D + 1) vI [va_rf (some this)] (F_X12_factor_B r_X12_expr r_X12_sum r_X12_part r_X12_factor this) := by
  refine ct_in (lv := [(0, va_rf (some this))]) (by decide) (by first | rfl | (simp only [lv_args, cat_rf]; rfl)) (by first | exact Nat.le_of_ble_eq_true rfl | (rw [lg_len]; simp only [List.map_cons, List.map_nil, cat_rf]; exact Nat.le_of_ble_eq_true rfl)) ?_
  unfold F_X12_factor_B
  refine ok_bipush (v := (60 : Int32)) (dd TX12_factor_0 0 rfl) (by decide) ?_
  refine ok_aload_n (dd TX12_factor_0 1 rfl) 0 rfl ?_
  refine ok_gI fl_RX12_208 rfl (dd TX12_factor_0 2 rfl) (fun v1 => ?_)
  refine ok_imul (dd TX12_factor_0 3 rfl) ?_
  refine ok_aload_n (dd TX12_factor_0 4 rfl) 0 rfl ?_
  refine ok_gI fl_RX12_211 rfl (dd TX12_factor_0 5 rfl) (fun v2 => ?_)
  refine ok_iadd (dd TX12_factor_0 6 rfl) ?_
  refine ok_istore_n (lv' := [(1, .int (((60 : Int32) * v1) + v2)), (0, va_rf (some this))]) (dd TX12_factor_0 7 rfl) (by decide) (by first | rfl | (simp only [List.filter, cat_rf]; rfl)) ?_
  refine ok_aload_n (dd TX12_factor_0 8 rfl) 1 rfl ?_
  refine ok_gP fl_RX12_22 rfl (dd TX12_factor_0 9 rfl) (fun v3 => ?_)
  refine ok_iload_n (dd TX12_factor_0 10 rfl) 0 rfl ?_
  refine ok_lI (kd := 192) (by decide) rfl (dd TX12_factor_0 11 rfl) (fun v4 => ?_)
  refine ok_istore_n (lv' := [(2, .int v4), (1, .int (((60 : Int32) * v1) + v2)), (0, va_rf (some this))]) (dd TX12_factor_0 12 rfl) (by decide) (by first | rfl | (simp only [List.filter, cat_rf]; rfl)) ?_
  refine ok_aload_n (dd TX12_factor_0 13 rfl) 2 rfl ?_
  refine ok_gP fl_RX12_25 rfl (dd TX12_factor_0 14 rfl) (fun v5 => ?_)
  refine ok_iload_n (dd TX12_factor_0 15 rfl) 1 rfl ?_
  refine ok_lI (kd := 200) (by decide) rfl (dd TX12_factor_0 16 rfl) (fun v6 => ?_)
  refine ok_istore_n (lv' := [(3, .int v6), (2, .int v4), (1, .int (((60 : Int32) * v1) + v2)), (0, va_rf (some this))]) (dd TX12_factor_0 17 rfl) (by decide) (by first | rfl | (simp only [List.filter, cat_rf]; rfl)) ?_
  refine ok_aload_n (dd TX12_factor_0 18 rfl) 3 rfl ?_
  refine ok_dup (dd TX12_factor_0 19 rfl) (by first | rfl | exact cat_rf _) ?_
  refine ok_gI fl_RX12_211 rfl (dd TX12_factor_0 20 rfl) (fun v7 => ?_)
  refine ok_iconst (v := (1 : Int32)) (dd TX12_factor_0 21 rfl) (by decide) ?_
  refine ok_iadd (dd TX12_factor_0 22 rfl) ?_
  refine ok_wI fl_RX12_211 (Or.inl rfl) (tyX12_ok 44 (by decide)) (by decide) rfl (dd TX12_factor_0 23 rfl) ?_
  refine ok_iload_n (dd TX12_factor_0 24 rfl) 1 rfl ?_
  refine ok_iconst (v := (1 : Int32)) (dd TX12_factor_0 25 rfl) (by decide) ?_
  refine ok_icmp_ne (tgt := 44) (dd TX12_factor_0 26 rfl) (by decide) ?_ ?_
  · refine ok_iload_n (dd TX12_factor_0 29 rfl) 1 rfl ?_
    refine ok_iconst (v := (2 : Int32)) (dd TX12_factor_0 30 rfl) (by decide) ?_
    refine ok_icmp_ne (tgt := 65) (dd TX12_factor_0 31 rfl) (by decide) ?_ ?_
    · refine ok_sub [3, 1, 0] rfl ?_
      exact O_X12_factor_L65 Γ D hB r_X12_expr hr_X12_expr r_X12_sum hr_X12_sum r_X12_part hr_X12_part r_X12_factor hr_X12_factor this v4 v6
    · refine ok_iload_n (dd TX12_factor_0 32 rfl) 0 rfl ?_
      refine ok_bipush (v := (10 : Int32)) (dd TX12_factor_0 33 rfl) (by decide) ?_
      refine ok_icmp_lt (tgt := 65) (dd TX12_factor_0 34 rfl) (by decide) ?_ ?_
      · refine ok_sub [3, 1, 0] rfl ?_
        exact O_X12_factor_L65 Γ D hB r_X12_expr hr_X12_expr r_X12_sum hr_X12_sum r_X12_part hr_X12_part r_X12_factor hr_X12_factor this v4 v6
      · refine ok_aload_n (dd TX12_factor_0 35 rfl) 3 rfl ?_
        refine ok_gP fl_RX12_84 rfl (dd TX12_factor_0 36 rfl) (fun v8 => ?_)
        refine ok_iload_n (dd TX12_factor_0 37 rfl) 0 rfl ?_
        refine ok_bipush (v := (10 : Int32)) (dd TX12_factor_0 38 rfl) (by decide) ?_
        refine ok_isub (dd TX12_factor_0 39 rfl) ?_
        refine ok_lI (kd := 352) (by decide) rfl (dd TX12_factor_1 0 rfl) (fun v9 => ?_)
        exact ok_ireturn (dd TX12_factor_1 1 rfl) rfl
  · refine ok_iload_n (dd TX12_factor_0 27 rfl) 0 rfl ?_
    exact ok_ireturn (dd TX12_factor_0 28 rfl) rfl
def R_X12_expr : Nat → (Nat → M Int32) × (Nat → M Int32) × (Nat → M Int32) × (Nat → M Int32)
  | 0 => ((fun b => fl), (fun b => fl), (fun b => fl), (fun b => fl))
  | n + 1 => ((fun b => F_X12_expr_B (R_X12_expr n).1 (R_X12_expr n).2.1 (R_X12_expr n).2.2.1 (R_X12_expr n).2.2.2 b), (fun b => F_X12_sum_B (R_X12_expr n).1 (R_X12_expr n).2.1 (R_X12_expr n).2.2.1 (R_X12_expr n).2.2.2 b), (fun b => F_X12_part_B (R_X12_expr n).1 (R_X12_expr n).2.1 (R_X12_expr n).2.2.1 (R_X12_expr n).2.2.2 b), (fun b => F_X12_factor_B (R_X12_expr n).1 (R_X12_expr n).2.1 (R_X12_expr n).2.2.1 (R_X12_expr n).2.2.2 b))
theorem CR_X12_expr (Γ : Gam) : ∀ n : Nat, (∀ (b : Nat), Ct Γ mX12_expr (n + 0) vI [va_rf (some b)] ((R_X12_expr n).1 b)) ∧ (∀ (b : Nat), Ct Γ mX12_sum (n + 0) vI [va_rf (some b)] ((R_X12_expr n).2.1 b)) ∧ (∀ (b : Nat), Ct Γ mX12_part (n + 0) vI [va_rf (some b)] ((R_X12_expr n).2.2.1 b)) ∧ (∀ (b : Nat), Ct Γ mX12_factor (n + 0) vI [va_rf (some b)] ((R_X12_expr n).2.2.2 b)) := by
  intro n
  induction n with
  | zero => exact ⟨fun _ => ct_fl, fun _ => ct_fl, fun _ => ct_fl, fun _ => ct_fl⟩
  | succ n ih =>
    obtain ⟨h0, h1, h2, h3⟩ := ih
    have e : n + 1 + 0 = n + 0 + 1 := by omega
    rw [e]
    exact ⟨fun b => C_X12_expr_B Γ (n + 0) (by omega) _ h0 _ h1 _ h2 _ h3 b, fun b => C_X12_sum_B Γ (n + 0) (by omega) _ h0 _ h1 _ h2 _ h3 b, fun b => C_X12_part_B Γ (n + 0) (by omega) _ h0 _ h1 _ h2 _ h3 b, fun b => C_X12_factor_B Γ (n + 0) (by omega) _ h0 _ h1 _ h2 _ h3 b⟩
def F_X12_expr (b : Nat) : M Int32 := (R_X12_expr 100).1 b
theorem C_X12_expr (Γ : Gam) (b : Nat) : Ct Γ mX12_expr 100 vI [va_rf (some b)] (F_X12_expr b) := (CR_X12_expr Γ 100).1 b
def F_X12_sum (b : Nat) : M Int32 := (R_X12_expr 100).2.1 b
theorem C_X12_sum (Γ : Gam) (b : Nat) : Ct Γ mX12_sum 100 vI [va_rf (some b)] (F_X12_sum b) := (CR_X12_expr Γ 100).2.1 b
def F_X12_part (b : Nat) : M Int32 := (R_X12_expr 100).2.2.1 b
theorem C_X12_part (Γ : Gam) (b : Nat) : Ct Γ mX12_part 100 vI [va_rf (some b)] (F_X12_part b) := (CR_X12_expr Γ 100).2.2.1 b
def F_X12_factor (b : Nat) : M Int32 := (R_X12_expr 100).2.2.2 b
theorem C_X12_factor (Γ : Gam) (b : Nat) : Ct Γ mX12_factor 100 vI [va_rf (some b)] (F_X12_factor b) := (CR_X12_expr Γ 100).2.2.2 b
def F_X2_queue_L47 (x2 : Option Nat) (x3 : Option Nat) (x4 : Int32) : M Unit := bn (pRc 13 x3) fun b10 => bn (F_Jx4a65c_add_7a177 b10 x4 x2) fun _ => rt ()
set_option maxRecDepth 100000 in
theorem O_X2_queue_L47 (Γ : Gam) (x2 : Option Nat) (x3 : Option Nat) (x4 : Int32) : Ok Γ mX2_queue 6 (qo Γ vV) 47 [(2, va_rf x2), (3, va_rf x3), (4, .int x4)] [] (F_X2_queue_L47 x2 x3 x4) := by
  unfold F_X2_queue_L47
  refine ok_aload_n (dd TX2_queue_0 22 rfl) 1 rfl ?_
  refine ok_iload (dd TX2_queue_0 23 rfl) 2 rfl ?_
  refine ok_aload_n (dd TX2_queue_0 24 rfl) 0 rfl ?_
  refine ok_callVV (cn := 13) [.int x4, va_rf x2] [] (fun b10 => C_Jx4a65c_add_7a177 Γ b10 x4 x2) rfl cy_Jx4a65c_add_7a177 ml_RX2_46 im_Jx4a65c_add_7a177 se_Jx4a65c_add_7a177 (by decide) (Nat.le_of_ble_eq_true rfl) rfl (dd TX2_queue_0 25 rfl) ?_
  exact ok_return (dd TX2_queue_0 26 rfl) rfl
def F_X2_queue_L9 : Nat → Int32 → Option Nat → Option Nat → Int32 → M Unit
  | 0 => fun _ _ _ _ => fl
  | n + 1 => fun x1 x2 x3 x4 => bn (pRc 13 x3) fun b3 => bn (F_Jx4a65c_size_8abf5 b3) fun v4 => if v4 ≤ x4 then F_X2_queue_L47 x2 x3 x4 else bn (gI 9 1 x2) fun v5 => bn (pRc 13 x3) fun b6 => bn (F_Jx4a65c_get_915e3 b6 x4) fun v7 => bn (cst 9 v7) fun _ => bn (gI 9 1 v7) fun v8 => bn (F_X2_isBetter x1 v5 v8) fun v9 => if ¬ v9 = 0 then F_X2_queue_L47 x2 x3 x4 else F_X2_queue_L9 n x1 x2 x3 (x4 + (1 : Int32))
set_option maxRecDepth 100000 in
theorem O_X2_queue_L9 (Γ : Gam) (n : Nat) : ∀ (x1 : Int32) (x2 : Option Nat) (x3 : Option Nat) (x4 : Int32), Ok Γ mX2_queue 6 (qo Γ vV) 9 [(1, .int x1), (2, va_rf x2), (3, va_rf x3), (4, .int x4)] [] (F_X2_queue_L9 n x1 x2 x3 x4) := by
  induction n with
  | zero => intro x1 x2 x3 x4; exact ok_fl
  | succ n ih =>
    intro x1 x2 x3 x4
    rw [F_X2_queue_L9]
    refine ok_iload (dd TX2_queue_0 6 rfl) 3 rfl ?_
    refine ok_aload_n (dd TX2_queue_0 7 rfl) 2 rfl ?_
    refine ok_callVI (cn := 13) [] [.int x4] (fun b3 => C_Jx4a65c_size_8abf5 Γ b3) rfl cy_Jx4a65c_size_8abf5 ml_RX2_28 im_Jx4a65c_size_8abf5 se_Jx4a65c_size_8abf5 (by decide) (Nat.le_of_ble_eq_true rfl) rfl (dd TX2_queue_0 8 rfl) (fun v4 => ?_)
    refine ok_icmp_ge (tgt := 47) (dd TX2_queue_0 9 rfl) (by decide) ?_ ?_
    · refine ok_sub [1, 2, 3] rfl ?_
      exact O_X2_queue_L47 Γ x2 x3 x4
    · refine ok_iload_n (dd TX2_queue_0 10 rfl) 0 rfl ?_
      refine ok_aload_n (dd TX2_queue_0 11 rfl) 1 rfl ?_
      refine ok_gI fl_RX2_32 rfl (dd TX2_queue_0 12 rfl) (fun v5 => ?_)
      refine ok_aload_n (dd TX2_queue_0 13 rfl) 2 rfl ?_
      refine ok_iload (dd TX2_queue_0 14 rfl) 3 rfl ?_
      refine ok_callVR (cn := 13) [.int x4] [.int v5, .int x1] (fun b6 => C_Jx4a65c_get_915e3 Γ b6 x4) rfl cy_Jx4a65c_get_915e3 ml_RX2_38 im_Jx4a65c_get_915e3 se_Jx4a65c_get_915e3 (by decide) (Nat.le_of_ble_eq_true rfl) rfl (dd TX2_queue_0 15 rfl) (fun v7 => ?_)
      refine ok_cst (cn := 9) rfl cl_RX2_33 (dd TX2_queue_0 16 rfl) ?_
      refine ok_gI fl_RX2_32 rfl (dd TX2_queue_0 17 rfl) (fun v8 => ?_)
      refine ok_callSI [.int x1, .int v5, .int v8] [] (C_X2_isBetter Γ x1 v5 v8) cy_X2_isBetter ml_RX2_42 sm_X2_isBetter (by decide) (Nat.le_of_ble_eq_true rfl) rfl (dd TX2_queue_0 18 rfl) (fun v9 => ?_)
      refine ok_if_ne (tgt := 47) (dd TX2_queue_0 19 rfl) (by decide) ?_ ?_
      · refine ok_sub [1, 2, 3] rfl ?_
        exact O_X2_queue_L47 Γ x2 x3 x4
      · refine ok_iinc (lv' := [(4, .int (x4 + (1 : Int32))), (1, .int x1), (2, va_rf x2), (3, va_rf x3)]) (dd TX2_queue_0 20 rfl) 3 rfl (congrArg (fun q : Int32 => x4 + q) (show Int32.ofInt (1) = (1 : Int32) from by decide)) (by decide) (by first | rfl | (simp only [List.filter, cat_rf]; rfl)) ?_
        refine ok_goto (tgt := 9) (dd TX2_queue_0 21 rfl) (by decide) ?_
        refine ok_sub [1, 2, 3, 0] rfl ?_
        exact ih x1 x2 x3 (x4 + (1 : Int32))
def F_X2_queue (this : Nat) (p0 : Int32) (p1 : Option Nat) : M Unit := bn (pRc 2 (some this)) fun b1 => bn (F_X2_side b1 p0) fun v2 => F_X2_queue_L9 FU p0 p1 v2 (0 : Int32)
set_option maxRecDepth 100000 in
theorem C_X2_queue (Γ : Gam) (this : Nat) (p0 : Int32) (p1 : Option Nat) : Ct Γ mX2_queue 6 vV [va_rf (some this), .int p0, va_rf p1] (F_X2_queue this p0 p1) := by
  refine ct_in (lv := [(0, va_rf (some this)), (1, .int p0), (2, va_rf p1)]) (by decide) (by first | rfl | (simp only [lv_args, cat_rf]; rfl)) (by first | exact Nat.le_of_ble_eq_true rfl | (rw [lg_len]; simp only [List.map_cons, List.map_nil, cat_rf]; exact Nat.le_of_ble_eq_true rfl)) ?_
  unfold F_X2_queue
  refine ok_aload_n (dd TX2_queue_0 0 rfl) 0 rfl ?_
  refine ok_iload_n (dd TX2_queue_0 1 rfl) 1 rfl ?_
  refine ok_callVR (cn := 2) [.int p0] [] (fun b1 => C_X2_side Γ b1 p0) rfl cy_X2_side ml_RX2_24 im_X2_side se_X2_side (by decide) (Nat.le_of_ble_eq_true rfl) rfl (dd TX2_queue_0 2 rfl) (fun v2 => ?_)
  refine ok_astore_n (lv' := [(3, va_rf v2), (0, va_rf (some this)), (1, .int p0), (2, va_rf p1)]) (dd TX2_queue_0 3 rfl) (by decide) (by first | rfl | (simp only [List.filter, cat_rf]; rfl)) ?_
  refine ok_iconst (v := (0 : Int32)) (dd TX2_queue_0 4 rfl) (by decide) ?_
  refine ok_istore (lv' := [(4, .int (0 : Int32)), (3, va_rf v2), (0, va_rf (some this)), (1, .int p0), (2, va_rf p1)]) (dd TX2_queue_0 5 rfl) (by decide) (by first | rfl | (simp only [List.filter, cat_rf]; rfl)) ?_
  refine ok_sub [3, 4, 1, 0] rfl ?_
  exact O_X2_queue_L9 Γ FU p0 p1 v2 (0 : Int32)
def F_X2_dropLatest_L72 (x5 : Option Nat) (y0 : Int32) : M Int32 := if y0 < 0 then rt (-1 : Int32) else bn (pRc 13 x5) fun b11 => bn (F_Jx4a65c_size_8abf5 b11) fun v12 => if y0 < v12 then bn (pRc 13 x5) fun b13 => bn (F_Jx4a65c_get_915e3 b13 y0) fun v14 => bn (cst 9 v14) fun _ => bn (gI 9 3 v14) fun v15 => bn (pRc 13 x5) fun b16 => bn (F_Jx4a65c_remove_915e3 b16 y0) fun v17 => rt v15 else rt (-1 : Int32)
set_option maxRecDepth 100000 in
theorem O_X2_dropLatest_L72 (Γ : Gam) (x5 : Option Nat) (y0 : Int32) : Ok Γ mX2_dropLatest 5 (qo Γ vI) 72 [(5, va_rf x5)] [.int y0] (F_X2_dropLatest_L72 x5 y0) := by
  unfold F_X2_dropLatest_L72
  refine ok_istore (lv' := [(6, .int y0), (5, va_rf x5)]) (dd TX2_dropLatest_0 36 rfl) (by decide) (by first | rfl | (simp only [List.filter, cat_rf]; rfl)) ?_
  refine ok_iload (dd TX2_dropLatest_0 37 rfl) 0 rfl ?_
  refine ok_if_lt (tgt := 89) (dd TX2_dropLatest_0 38 rfl) (by decide) ?_ ?_
  · refine ok_iconst (v := (-1 : Int32)) (dd TX2_dropLatest_1 3 rfl) (by decide) ?_
    exact ok_ireturn (dd TX2_dropLatest_1 4 rfl) rfl
  · refine ok_iload (dd TX2_dropLatest_0 39 rfl) 0 rfl ?_
    refine ok_aload (dd TX2_dropLatest_1 0 rfl) 1 rfl ?_
    refine ok_callVI (cn := 13) [] [.int y0] (fun b11 => C_Jx4a65c_size_8abf5 Γ b11) rfl cy_Jx4a65c_size_8abf5 ml_RX2_28 im_Jx4a65c_size_8abf5 se_Jx4a65c_size_8abf5 (by decide) (Nat.le_of_ble_eq_true rfl) rfl (dd TX2_dropLatest_1 1 rfl) (fun v12 => ?_)
    refine ok_icmp_lt (tgt := 91) (dd TX2_dropLatest_1 2 rfl) (by decide) ?_ ?_
    · refine ok_aload (dd TX2_dropLatest_1 5 rfl) 1 rfl ?_
      refine ok_iload (dd TX2_dropLatest_1 6 rfl) 0 rfl ?_
      refine ok_callVR (cn := 13) [.int y0] [] (fun b13 => C_Jx4a65c_get_915e3 Γ b13 y0) rfl cy_Jx4a65c_get_915e3 ml_RX2_38 im_Jx4a65c_get_915e3 se_Jx4a65c_get_915e3 (by decide) (Nat.le_of_ble_eq_true rfl) rfl (dd TX2_dropLatest_1 7 rfl) (fun v14 => ?_)
      refine ok_cst (cn := 9) rfl cl_RX2_33 (dd TX2_dropLatest_1 8 rfl) ?_
      refine ok_gI fl_RX2_53 rfl (dd TX2_dropLatest_1 9 rfl) (fun v15 => ?_)
      refine ok_istore (lv' := [(7, .int v15), (6, .int y0), (5, va_rf x5)]) (dd TX2_dropLatest_1 10 rfl) (by decide) (by first | rfl | (simp only [List.filter, cat_rf]; rfl)) ?_
      refine ok_aload (dd TX2_dropLatest_1 11 rfl) 2 rfl ?_
      refine ok_iload (dd TX2_dropLatest_1 12 rfl) 1 rfl ?_
      refine ok_callVR (cn := 13) [.int y0] [] (fun b16 => C_Jx4a65c_remove_915e3 Γ b16 y0) rfl cy_Jx4a65c_remove_915e3 ml_RX2_66 im_Jx4a65c_remove_915e3 se_Jx4a65c_remove_915e3 (by decide) (Nat.le_of_ble_eq_true rfl) rfl (dd TX2_dropLatest_1 13 rfl) (fun v17 => ?_)
      refine ok_pop (dd TX2_dropLatest_1 14 rfl) (by first | rfl | exact cat_rf _) ?_
      refine ok_iload (dd TX2_dropLatest_1 15 rfl) 0 rfl ?_
      exact ok_ireturn (dd TX2_dropLatest_1 16 rfl) rfl
    · refine ok_iconst (v := (-1 : Int32)) (dd TX2_dropLatest_1 3 rfl) (by decide) ?_
      exact ok_ireturn (dd TX2_dropLatest_1 4 rfl) rfl
def F_X2_dropLatest_L60 (x2 : Int32) (x3 : Int32) (x4 : Int32) (y0 : Option Nat) : M Int32 := if x4 = 0 then F_X2_dropLatest_L72 y0 x3 else F_X2_dropLatest_L72 y0 x2
set_option maxRecDepth 100000 in
theorem O_X2_dropLatest_L60 (Γ : Gam) (x2 : Int32) (x3 : Int32) (x4 : Int32) (y0 : Option Nat) : Ok Γ mX2_dropLatest 5 (qo Γ vI) 60 [(2, .int x2), (3, .int x3), (4, .int x4)] [va_rf y0] (F_X2_dropLatest_L60 x2 x3 x4 y0) := by
  unfold F_X2_dropLatest_L60
  refine ok_astore (lv' := [(5, va_rf y0), (2, .int x2), (3, .int x3), (4, .int x4)]) (dd TX2_dropLatest_0 30 rfl) (by decide) (by first | rfl | (simp only [List.filter, cat_rf]; rfl)) ?_
  refine ok_iload (dd TX2_dropLatest_0 31 rfl) 3 rfl ?_
  refine ok_if_eq (tgt := 71) (dd TX2_dropLatest_0 32 rfl) (by decide) ?_ ?_
  · refine ok_iload_n (dd TX2_dropLatest_0 35 rfl) 2 rfl ?_
    refine ok_sub [0] rfl ?_
    exact O_X2_dropLatest_L72 Γ y0 x3
  · refine ok_iload_n (dd TX2_dropLatest_0 33 rfl) 1 rfl ?_
    refine ok_goto (tgt := 72) (dd TX2_dropLatest_0 34 rfl) (by decide) ?_
    refine ok_sub [0] rfl ?_
    exact O_X2_dropLatest_L72 Γ y0 x2
def F_X2_dropLatest_L42 (this : Nat) (x2 : Int32) (x3 : Int32) (y0 : Int32) : M Int32 := if y0 = 0 then bn (gP 2 1 (some this)) fun v9 => F_X2_dropLatest_L60 x2 x3 y0 v9 else bn (gP 2 0 (some this)) fun v10 => F_X2_dropLatest_L60 x2 x3 y0 v10
set_option maxRecDepth 100000 in
theorem O_X2_dropLatest_L42 (Γ : Gam) (this : Nat) (x2 : Int32) (x3 : Int32) (y0 : Int32) : Ok Γ mX2_dropLatest 5 (qo Γ vI) 42 [(0, va_rf (some this)), (2, .int x2), (3, .int x3)] [.int y0] (F_X2_dropLatest_L42 this x2 x3 y0) := by
  unfold F_X2_dropLatest_L42
  refine ok_istore (lv' := [(4, .int y0), (0, va_rf (some this)), (2, .int x2), (3, .int x3)]) (dd TX2_dropLatest_0 22 rfl) (by decide) (by first | rfl | (simp only [List.filter, cat_rf]; rfl)) ?_
  refine ok_iload (dd TX2_dropLatest_0 23 rfl) 0 rfl ?_
  refine ok_if_eq (tgt := 56) (dd TX2_dropLatest_0 24 rfl) (by decide) ?_ ?_
  · refine ok_aload_n (dd TX2_dropLatest_0 28 rfl) 1 rfl ?_
    refine ok_gP fl_RX2_18 rfl (dd TX2_dropLatest_0 29 rfl) (fun v9 => ?_)
    refine ok_sub [2, 3, 0] rfl ?_
    exact O_X2_dropLatest_L60 Γ x2 x3 y0 v9
  · refine ok_aload_n (dd TX2_dropLatest_0 25 rfl) 1 rfl ?_
    refine ok_gP fl_RX2_12 rfl (dd TX2_dropLatest_0 26 rfl) (fun v10 => ?_)
    refine ok_goto (tgt := 60) (dd TX2_dropLatest_0 27 rfl) (by decide) ?_
    refine ok_sub [2, 3, 0] rfl ?_
    exact O_X2_dropLatest_L60 Γ x2 x3 y0 v10
def F_X2_dropLatest (this : Nat) (p0 : Int32) : M Int32 := bn (gP 2 0 (some this)) fun v1 => bn (F_X2_latestOf v1 p0) fun v2 => bn (gP 2 1 (some this)) fun v3 => bn (F_X2_latestOf v3 p0) fun v4 => bn (gP 2 0 (some this)) fun v5 => bn (F_X2_numberAt v5 v2) fun v6 => bn (gP 2 1 (some this)) fun v7 => bn (F_X2_numberAt v7 v4) fun v8 => if v6 ≤ v8 then F_X2_dropLatest_L42 this v2 v4 (0 : Int32) else F_X2_dropLatest_L42 this v2 v4 (1 : Int32)
set_option maxRecDepth 100000 in
theorem C_X2_dropLatest (Γ : Gam) (this : Nat) (p0 : Int32) : Ct Γ mX2_dropLatest 5 vI [va_rf (some this), .int p0] (F_X2_dropLatest this p0) := by
  refine ct_in (lv := [(0, va_rf (some this)), (1, .int p0)]) (by decide) (by first | rfl | (simp only [lv_args, cat_rf]; rfl)) (by first | exact Nat.le_of_ble_eq_true rfl | (rw [lg_len]; simp only [List.map_cons, List.map_nil, cat_rf]; exact Nat.le_of_ble_eq_true rfl)) ?_
  unfold F_X2_dropLatest
  refine ok_aload_n (dd TX2_dropLatest_0 0 rfl) 0 rfl ?_
  refine ok_gP fl_RX2_12 rfl (dd TX2_dropLatest_0 1 rfl) (fun v1 => ?_)
  refine ok_iload_n (dd TX2_dropLatest_0 2 rfl) 1 rfl ?_
  refine ok_callSI [va_rf v1, .int p0] [] (C_X2_latestOf Γ v1 p0) cy_X2_latestOf ml_RX2_59 sm_X2_latestOf (by decide) (Nat.le_of_ble_eq_true rfl) rfl (dd TX2_dropLatest_0 3 rfl) (fun v2 => ?_)
  refine ok_istore_n (lv' := [(2, .int v2), (0, va_rf (some this)), (1, .int p0)]) (dd TX2_dropLatest_0 4 rfl) (by decide) (by first | rfl | (simp only [List.filter, cat_rf]; rfl)) ?_
  refine ok_aload_n (dd TX2_dropLatest_0 5 rfl) 1 rfl ?_
  refine ok_gP fl_RX2_18 rfl (dd TX2_dropLatest_0 6 rfl) (fun v3 => ?_)
  refine ok_iload_n (dd TX2_dropLatest_0 7 rfl) 2 rfl ?_
  refine ok_callSI [va_rf v3, .int p0] [] (C_X2_latestOf Γ v3 p0) cy_X2_latestOf ml_RX2_59 sm_X2_latestOf (by decide) (Nat.le_of_ble_eq_true rfl) rfl (dd TX2_dropLatest_0 8 rfl) (fun v4 => ?_)
  refine ok_istore_n (lv' := [(3, .int v4), (2, .int v2), (0, va_rf (some this)), (1, .int p0)]) (dd TX2_dropLatest_0 9 rfl) (by decide) (by first | rfl | (simp only [List.filter, cat_rf]; rfl)) ?_
  refine ok_aload_n (dd TX2_dropLatest_0 10 rfl) 2 rfl ?_
  refine ok_gP fl_RX2_12 rfl (dd TX2_dropLatest_0 11 rfl) (fun v5 => ?_)
  refine ok_iload_n (dd TX2_dropLatest_0 12 rfl) 1 rfl ?_
  refine ok_callSI [va_rf v5, .int v2] [] (C_X2_numberAt Γ v5 v2) cy_X2_numberAt ml_RX2_63 sm_X2_numberAt (by decide) (Nat.le_of_ble_eq_true rfl) rfl (dd TX2_dropLatest_0 13 rfl) (fun v6 => ?_)
  refine ok_aload_n (dd TX2_dropLatest_0 14 rfl) 2 rfl ?_
  refine ok_gP fl_RX2_18 rfl (dd TX2_dropLatest_0 15 rfl) (fun v7 => ?_)
  refine ok_iload_n (dd TX2_dropLatest_0 16 rfl) 0 rfl ?_
  refine ok_callSI [va_rf v7, .int v4] [.int v6] (C_X2_numberAt Γ v7 v4) cy_X2_numberAt ml_RX2_63 sm_X2_numberAt (by decide) (Nat.le_of_ble_eq_true rfl) rfl (dd TX2_dropLatest_0 17 rfl) (fun v8 => ?_)
  refine ok_icmp_le (tgt := 41) (dd TX2_dropLatest_0 18 rfl) (by decide) ?_ ?_
  · refine ok_iconst (v := (0 : Int32)) (dd TX2_dropLatest_0 21 rfl) (by decide) ?_
    refine ok_sub [2, 1, 0] rfl ?_
    exact O_X2_dropLatest_L42 Γ this v2 v4 (0 : Int32)
  · refine ok_iconst (v := (1 : Int32)) (dd TX2_dropLatest_0 19 rfl) (by decide) ?_
    refine ok_goto (tgt := 42) (dd TX2_dropLatest_0 20 rfl) (by decide) ?_
    refine ok_sub [2, 1, 0] rfl ?_
    exact O_X2_dropLatest_L42 Γ this v2 v4 (1 : Int32)
def F_X4_readNumber_L73 (this : Nat) : M Unit := bn (wI 4 6 (some this) (16 : Int32)) fun _ => bn (gI 4 7 (some this)) fun v12 => if v12 ≤ (999999 : Int32) then bn (pRc 4 (some this)) fun b13 => bn (F_X4_refuseIf b13 (0 : Int32) (1 : Int32)) fun _ => rt () else bn (pRc 4 (some this)) fun b14 => bn (F_X4_refuseIf b14 (1 : Int32) (1 : Int32)) fun _ => rt ()
set_option maxRecDepth 100000 in
theorem O_X4_readNumber_L73 (Γ : Gam) (this : Nat) : Ok Γ mX4_readNumber 1 (qo Γ vV) 73 [(0, va_rf (some this))] [] (F_X4_readNumber_L73 this) := by
  unfold F_X4_readNumber_L73
  refine ok_aload_n (dd TX4_readNumber_0 38 rfl) 0 rfl ?_
  refine ok_bipush (v := (16 : Int32)) (dd TX4_readNumber_0 39 rfl) (by decide) ?_
  refine ok_wI fl_RX4_38 (Or.inl rfl) (tyX4_ok 6 (by decide)) (by decide) rfl (dd TX4_readNumber_1 0 rfl) ?_
  refine ok_aload_n (dd TX4_readNumber_1 1 rfl) 0 rfl ?_
  refine ok_aload_n (dd TX4_readNumber_1 2 rfl) 0 rfl ?_
  refine ok_gI fl_RX4_60 rfl (dd TX4_readNumber_1 3 rfl) (fun v12 => ?_)
  refine ok_ldc (v := (999999 : Int32)) (dd TX4_readNumber_1 4 rfl) ct_RX4_142 ?_
  refine ok_icmp_le (tgt := 93) (dd TX4_readNumber_1 5 rfl) (by decide) ?_ ?_
  · refine ok_iconst (v := (0 : Int32)) (dd TX4_readNumber_1 8 rfl) (by decide) ?_
    refine ok_iconst (v := (1 : Int32)) (dd TX4_readNumber_1 9 rfl) (by decide) ?_
    refine ok_callVV (cn := 4) [.int (0 : Int32), .int (1 : Int32)] [] (fun b13 => C_X4_refuseIf Γ b13 (0 : Int32) (1 : Int32)) rfl cy_X4_refuseIf ml_RX4_52 im_X4_refuseIf se_X4_refuseIf (by decide) (Nat.le_of_ble_eq_true rfl) rfl (dd TX4_readNumber_1 10 rfl) ?_
    exact ok_return (dd TX4_readNumber_1 11 rfl) rfl
  · refine ok_iconst (v := (1 : Int32)) (dd TX4_readNumber_1 6 rfl) (by decide) ?_
    refine ok_goto (tgt := 94) (dd TX4_readNumber_1 7 rfl) (by decide) ?_
    refine ok_iconst (v := (1 : Int32)) (dd TX4_readNumber_1 9 rfl) (by decide) ?_
    refine ok_callVV (cn := 4) [.int (1 : Int32), .int (1 : Int32)] [] (fun b14 => C_X4_refuseIf Γ b14 (1 : Int32) (1 : Int32)) rfl cy_X4_refuseIf ml_RX4_52 im_X4_refuseIf se_X4_refuseIf (by decide) (Nat.le_of_ble_eq_true rfl) rfl (dd TX4_readNumber_1 10 rfl) ?_
    exact ok_return (dd TX4_readNumber_1 11 rfl) rfl
def F_X4_readNumber_L5 : Nat → Nat → M Unit
  | 0 => fun _ => fl
  | n + 1 => fun this => bn (gI 4 4 (some this)) fun v1 => bn (gI 4 1 (some this)) fun v2 => if v2 ≤ v1 then F_X4_readNumber_L73 this else bn (gP 4 0 (some this)) fun v3 => bn (gI 4 4 (some this)) fun v4 => bn (lI 115 v3 v4) fun v5 => bn (F_X4_isDigit v5) fun v6 => if v6 = 0 then F_X4_readNumber_L73 this else bn (gI 4 7 (some this)) fun v7 => bn (gP 4 0 (some this)) fun v8 => bn (gI 4 4 (some this)) fun v9 => bn (lI 115 v8 v9) fun v10 => bn (wI 4 7 (some this) (if (1000000 : Int32) < (((v7 * (10 : Int32)) + v10) - (48 : Int32)) then (1000000 : Int32) else (((v7 * (10 : Int32)) + v10) - (48 : Int32)))) fun _ => bn (gI 4 4 (some this)) fun v11 => bn (wI 4 4 (some this) (v11 + (1 : Int32))) fun _ => F_X4_readNumber_L5 n this
set_option maxRecDepth 100000 in
theorem O_X4_readNumber_L5 (Γ : Gam) (n : Nat) : ∀ (this : Nat), Ok Γ mX4_readNumber 1 (qo Γ vV) 5 [(0, va_rf (some this))] [] (F_X4_readNumber_L5 n this) := by
  induction n with
  | zero => intro this; exact ok_fl
  | succ n ih =>
    intro this
    rw [F_X4_readNumber_L5]
    refine ok_aload_n (dd TX4_readNumber_0 3 rfl) 0 rfl ?_
    refine ok_gI fl_RX4_35 rfl (dd TX4_readNumber_0 4 rfl) (fun v1 => ?_)
    refine ok_aload_n (dd TX4_readNumber_0 5 rfl) 0 rfl ?_
    refine ok_gI fl_RX4_19 rfl (dd TX4_readNumber_0 6 rfl) (fun v2 => ?_)
    refine ok_icmp_ge (tgt := 73) (dd TX4_readNumber_0 7 rfl) (by decide) ?_ ?_
    · exact O_X4_readNumber_L73 Γ this
    · refine ok_aload_n (dd TX4_readNumber_0 8 rfl) 0 rfl ?_
      refine ok_gP fl_RX4_11 rfl (dd TX4_readNumber_0 9 rfl) (fun v3 => ?_)
      refine ok_aload_n (dd TX4_readNumber_0 10 rfl) 0 rfl ?_
      refine ok_gI fl_RX4_35 rfl (dd TX4_readNumber_0 11 rfl) (fun v4 => ?_)
      refine ok_lC (kd := 115) (by decide) rfl (dd TX4_readNumber_0 12 rfl) (fun v5 => ?_)
      refine ok_callSI [.int v5] [] (C_X4_isDigit Γ v5) cy_X4_isDigit ml_RX4_122 sm_X4_isDigit (by decide) (Nat.le_of_ble_eq_true rfl) rfl (dd TX4_readNumber_0 13 rfl) (fun v6 => ?_)
      refine ok_if_eq (tgt := 73) (dd TX4_readNumber_0 14 rfl) (by decide) ?_ ?_
      · exact O_X4_readNumber_L73 Γ this
      · refine ok_aload_n (dd TX4_readNumber_0 15 rfl) 0 rfl ?_
        refine ok_aload_n (dd TX4_readNumber_0 16 rfl) 0 rfl ?_
        refine ok_gI fl_RX4_60 rfl (dd TX4_readNumber_0 17 rfl) (fun v7 => ?_)
        refine ok_bipush (v := (10 : Int32)) (dd TX4_readNumber_0 18 rfl) (by decide) ?_
        refine ok_imul (dd TX4_readNumber_0 19 rfl) ?_
        refine ok_aload_n (dd TX4_readNumber_0 20 rfl) 0 rfl ?_
        refine ok_gP fl_RX4_11 rfl (dd TX4_readNumber_0 21 rfl) (fun v8 => ?_)
        refine ok_aload_n (dd TX4_readNumber_0 22 rfl) 0 rfl ?_
        refine ok_gI fl_RX4_35 rfl (dd TX4_readNumber_0 23 rfl) (fun v9 => ?_)
        refine ok_lC (kd := 115) (by decide) rfl (dd TX4_readNumber_0 24 rfl) (fun v10 => ?_)
        refine ok_iadd (dd TX4_readNumber_0 25 rfl) ?_
        refine ok_bipush (v := (48 : Int32)) (dd TX4_readNumber_0 26 rfl) (by decide) ?_
        refine ok_isub (dd TX4_readNumber_0 27 rfl) ?_
        refine ok_ldc (v := (1000000 : Int32)) (dd TX4_readNumber_0 28 rfl) ct_RX4_136 ?_
        refine ok_mmin ml_RX4_137 ms_min w_mi mc_min (by decide) (Nat.le_of_ble_eq_true rfl) (dd TX4_readNumber_0 29 rfl) ?_
        refine ok_wI fl_RX4_60 (Or.inl rfl) (tyX4_ok 7 (by decide)) (by decide) rfl (dd TX4_readNumber_0 30 rfl) ?_
        refine ok_aload_n (dd TX4_readNumber_0 31 rfl) 0 rfl ?_
        refine ok_dup (dd TX4_readNumber_0 32 rfl) (by first | rfl | exact cat_rf _) ?_
        refine ok_gI fl_RX4_35 rfl (dd TX4_readNumber_0 33 rfl) (fun v11 => ?_)
        refine ok_iconst (v := (1 : Int32)) (dd TX4_readNumber_0 34 rfl) (by decide) ?_
        refine ok_iadd (dd TX4_readNumber_0 35 rfl) ?_
        refine ok_wI fl_RX4_35 (Or.inl rfl) (tyX4_ok 4 (by decide)) (by decide) rfl (dd TX4_readNumber_0 36 rfl) ?_
        refine ok_goto (tgt := 5) (dd TX4_readNumber_0 37 rfl) (by decide) ?_
        exact ih this
def F_X4_readNumber (this : Nat) : M Unit := bn (wI 4 7 (some this) (0 : Int32)) fun _ => F_X4_readNumber_L5 FU this
set_option maxRecDepth 100000 in
theorem C_X4_readNumber (Γ : Gam) (this : Nat) : Ct Γ mX4_readNumber 1 vV [va_rf (some this)] (F_X4_readNumber this) := by
  refine ct_in (lv := [(0, va_rf (some this))]) (by decide) (by first | rfl | (simp only [lv_args, cat_rf]; rfl)) (by first | exact Nat.le_of_ble_eq_true rfl | (rw [lg_len]; simp only [List.map_cons, List.map_nil, cat_rf]; exact Nat.le_of_ble_eq_true rfl)) ?_
  unfold F_X4_readNumber
  refine ok_aload_n (dd TX4_readNumber_0 0 rfl) 0 rfl ?_
  refine ok_iconst (v := (0 : Int32)) (dd TX4_readNumber_0 1 rfl) (by decide) ?_
  refine ok_wI fl_RX4_60 (Or.inl rfl) (tyX4_ok 7 (by decide)) (by decide) rfl (dd TX4_readNumber_0 2 rfl) ?_
  exact O_X4_readNumber_L5 Γ FU this
def F_X7_apply_L42 (y0 : Int32) (y1 : Option Nat) : M Unit := bn (pRc 7 y1) fun b10 => bn (F_X7_push b10 y0) fun _ => rt ()
set_option maxRecDepth 100000 in
theorem O_X7_apply_L42 (Γ : Gam) (y0 : Int32) (y1 : Option Nat) : Ok Γ mX7_apply 2 (qo Γ vV) 42 [] [.int y0, va_rf y1] (F_X7_apply_L42 y0 y1) := by
  unfold F_X7_apply_L42
  refine ok_callVV (cn := 7) [.int y0] [] (fun b10 => C_X7_push Γ b10 y0) rfl cy_X7_push ml_RX7_58 im_X7_push se_X7_push (by decide) (Nat.le_of_ble_eq_true rfl) rfl (dd TX7_apply_0 24 rfl) ?_
  refine ok_goto (tgt := 59) (dd TX7_apply_0 25 rfl) (by decide) ?_
  exact ok_return (dd TX7_apply_0 33 rfl) rfl
def F_X7_apply (this : Nat) (p0 : Int32) : M Unit := bn (pRc 7 (some this)) fun b1 => bn (F_X7_pop b1) fun v2 => if ¬ p0 = (-7 : Int32) then bn (pRc 7 (some this)) fun b3 => bn (F_X7_pop b3) fun v4 => if ¬ p0 = (-8 : Int32) then bn (F_X7_combine (-p0) v4 v2) fun v5 => bn (pRc 7 (some this)) fun b6 => bn (F_X7_push b6 v5) fun _ => rt () else bn (pRc 7 (some this)) fun b7 => bn (F_X7_pop b7) fun v8 => if v8 = 0 then F_X7_apply_L42 v2 (some this) else F_X7_apply_L42 v4 (some this) else bn (pRc 7 (some this)) fun b9 => bn (F_X7_push b9 (-v2)) fun _ => rt ()
set_option maxRecDepth 100000 in
theorem C_X7_apply (Γ : Gam) (this : Nat) (p0 : Int32) : Ct Γ mX7_apply 2 vV [va_rf (some this), .int p0] (F_X7_apply this p0) := by
  refine ct_in (lv := [(0, va_rf (some this)), (1, .int p0)]) (by decide) (by first | rfl | (simp only [lv_args, cat_rf]; rfl)) (by first | exact Nat.le_of_ble_eq_true rfl | (rw [lg_len]; simp only [List.map_cons, List.map_nil, cat_rf]; exact Nat.le_of_ble_eq_true rfl)) ?_
  unfold F_X7_apply
  refine ok_aload_n (dd TX7_apply_0 0 rfl) 0 rfl ?_
  refine ok_callVI (cn := 7) [] [] (fun b1 => C_X7_pop Γ b1) rfl cy_X7_pop ml_RX7_65 im_X7_pop se_X7_pop (by decide) (Nat.le_of_ble_eq_true rfl) rfl (dd TX7_apply_0 1 rfl) (fun v2 => ?_)
  refine ok_istore_n (lv' := [(2, .int v2), (0, va_rf (some this)), (1, .int p0)]) (dd TX7_apply_0 2 rfl) (by decide) (by first | rfl | (simp only [List.filter, cat_rf]; rfl)) ?_
  refine ok_iload_n (dd TX7_apply_0 3 rfl) 2 rfl ?_
  refine ok_bipush (v := (-7 : Int32)) (dd TX7_apply_0 4 rfl) (by decide) ?_
  refine ok_icmp_ne (tgt := 18) (dd TX7_apply_0 5 rfl) (by decide) ?_ ?_
  · refine ok_aload_n (dd TX7_apply_0 11 rfl) 1 rfl ?_
    refine ok_callVI (cn := 7) [] [] (fun b3 => C_X7_pop Γ b3) rfl cy_X7_pop ml_RX7_65 im_X7_pop se_X7_pop (by decide) (Nat.le_of_ble_eq_true rfl) rfl (dd TX7_apply_0 12 rfl) (fun v4 => ?_)
    refine ok_istore_n (lv' := [(3, .int v4), (2, .int v2), (0, va_rf (some this)), (1, .int p0)]) (dd TX7_apply_0 13 rfl) (by decide) (by first | rfl | (simp only [List.filter, cat_rf]; rfl)) ?_
    refine ok_iload_n (dd TX7_apply_0 14 rfl) 3 rfl ?_
    refine ok_bipush (v := (-8 : Int32)) (dd TX7_apply_0 15 rfl) (by decide) ?_
    refine ok_icmp_ne (tgt := 48) (dd TX7_apply_0 16 rfl) (by decide) ?_ ?_
    · refine ok_aload_n (dd TX7_apply_0 26 rfl) 2 rfl ?_
      refine ok_iload_n (dd TX7_apply_0 27 rfl) 3 rfl ?_
      refine ok_ineg (dd TX7_apply_0 28 rfl) ?_
      refine ok_iload_n (dd TX7_apply_0 29 rfl) 0 rfl ?_
      refine ok_iload_n (dd TX7_apply_0 30 rfl) 1 rfl ?_
      refine ok_callSI [.int (-p0), .int v4, .int v2] [va_rf (some this)] (C_X7_combine Γ (-p0) v4 v2) cy_X7_combine ml_RX7_68 sm_X7_combine (by decide) (Nat.le_of_ble_eq_true rfl) rfl (dd TX7_apply_0 31 rfl) (fun v5 => ?_)
      refine ok_callVV (cn := 7) [.int v5] [] (fun b6 => C_X7_push Γ b6 v5) rfl cy_X7_push ml_RX7_58 im_X7_push se_X7_push (by decide) (Nat.le_of_ble_eq_true rfl) rfl (dd TX7_apply_0 32 rfl) ?_
      exact ok_return (dd TX7_apply_0 33 rfl) rfl
    · refine ok_aload_n (dd TX7_apply_0 17 rfl) 2 rfl ?_
      refine ok_aload_n (dd TX7_apply_0 18 rfl) 2 rfl ?_
      refine ok_callVI (cn := 7) [] [va_rf (some this)] (fun b7 => C_X7_pop Γ b7) rfl cy_X7_pop ml_RX7_65 im_X7_pop se_X7_pop (by decide) (Nat.le_of_ble_eq_true rfl) rfl (dd TX7_apply_0 19 rfl) (fun v8 => ?_)
      refine ok_if_eq (tgt := 41) (dd TX7_apply_0 20 rfl) (by decide) ?_ ?_
      · refine ok_iload_n (dd TX7_apply_0 23 rfl) 1 rfl ?_
        refine ok_sub [] rfl ?_
        exact O_X7_apply_L42 Γ v2 (some this)
      · refine ok_iload_n (dd TX7_apply_0 21 rfl) 0 rfl ?_
        refine ok_goto (tgt := 42) (dd TX7_apply_0 22 rfl) (by decide) ?_
        refine ok_sub [] rfl ?_
        exact O_X7_apply_L42 Γ v4 (some this)
  · refine ok_aload_n (dd TX7_apply_0 6 rfl) 1 rfl ?_
    refine ok_iload_n (dd TX7_apply_0 7 rfl) 0 rfl ?_
    refine ok_ineg (dd TX7_apply_0 8 rfl) ?_
    refine ok_callVV (cn := 7) [.int (-v2)] [] (fun b9 => C_X7_push Γ b9 (-v2)) rfl cy_X7_push ml_RX7_58 im_X7_push se_X7_push (by decide) (Nat.le_of_ble_eq_true rfl) rfl (dd TX7_apply_0 9 rfl) ?_
    exact ok_return (dd TX7_apply_0 10 rfl) rfl
def F_X11_cancel (this : Nat) (p0 : Int32) (p1 : Int32) : M Int32 := bn (F_X11_isMonth p1) fun v1 => if v1 = 0 then rt (-1 : Int32) else bn (gP 11 2 (some this)) fun v2 => bn (lP 157 v2 p1) fun v3 => bn (pRc 2 v3) fun b4 => bn (F_X2_dropLatest b4 p0) fun v5 => rt v5
set_option maxRecDepth 100000 in
theorem C_X11_cancel (Γ : Gam) (this : Nat) (p0 : Int32) (p1 : Int32) : Ct Γ mX11_cancel 6 vI [va_rf (some this), .int p0, .int p1] (F_X11_cancel this p0 p1) := by
  refine ct_in (lv := [(0, va_rf (some this)), (1, .int p0), (2, .int p1)]) (by decide) (by first | rfl | (simp only [lv_args, cat_rf]; rfl)) (by first | exact Nat.le_of_ble_eq_true rfl | (rw [lg_len]; simp only [List.map_cons, List.map_nil, cat_rf]; exact Nat.le_of_ble_eq_true rfl)) ?_
  unfold F_X11_cancel
  refine ok_iload_n (dd TX11_cancel_0 0 rfl) 2 rfl ?_
  refine ok_callSI [.int p1] [] (C_X11_isMonth Γ p1) cy_X11_isMonth ml_RX11_127 sm_X11_isMonth (by decide) (Nat.le_of_ble_eq_true rfl) rfl (dd TX11_cancel_0 1 rfl) (fun v1 => ?_)
  refine ok_if_eq (tgt := 20) (dd TX11_cancel_0 2 rfl) (by decide) ?_ ?_
  · refine ok_iconst (v := (-1 : Int32)) (dd TX11_cancel_0 10 rfl) (by decide) ?_
    exact ok_ireturn (dd TX11_cancel_0 11 rfl) rfl
  · refine ok_aload_n (dd TX11_cancel_0 3 rfl) 0 rfl ?_
    refine ok_gP fl_RX11_25 rfl (dd TX11_cancel_0 4 rfl) (fun v2 => ?_)
    refine ok_iload_n (dd TX11_cancel_0 5 rfl) 2 rfl ?_
    refine ok_lP5 (kd := 157) (by decide) rfl (dd TX11_cancel_0 6 rfl) (fun v3 => ?_)
    refine ok_iload_n (dd TX11_cancel_0 7 rfl) 1 rfl ?_
    refine ok_callVI (cn := 2) [.int p0] [] (fun b4 => C_X2_dropLatest Γ b4 p0) rfl cy_X2_dropLatest ml_RX11_131 im_X2_dropLatest se_X2_dropLatest (by decide) (Nat.le_of_ble_eq_true rfl) rfl (dd TX11_cancel_0 8 rfl) (fun v5 => ?_)
    refine ok_goto (tgt := 21) (dd TX11_cancel_0 9 rfl) (by decide) ?_
    exact ok_ireturn (dd TX11_cancel_0 11 rfl) rfl
def F_X11_waiting (this : Nat) (p0 : Int32) (p1 : Int32) (p2 : Int32) (p3 : Int32) : M Int32 := bn (F_X11_isMonth p1) fun v1 => if ¬ v1 = 0 then bn (gP 11 2 (some this)) fun v2 => bn (lP 157 v2 p1) fun v3 => bn (pRc 2 v3) fun b4 => bn (F_X2_side b4 p0) fun v5 => if p2 < 0 then rt (-1 : Int32) else bn (pRc 13 v5) fun b6 => bn (F_Jx4a65c_size_8abf5 b6) fun v7 => if p2 < v7 then bn (pRc 13 v5) fun b8 => bn (F_Jx4a65c_get_915e3 b8 p2) fun v9 => bn (cst 9 v9) fun _ => swF p3 [((0 : Int32), 76, bn (gI 9 0 v9) fun v10 => rt v10), ((1 : Int32), 82, bn (gI 9 1 v9) fun v11 => rt v11), ((2 : Int32), 88, bn (gI 9 3 v9) fun v12 => rt v12)] (rt (-1 : Int32)) else rt (-1 : Int32) else rt (-1 : Int32)
set_option maxRecDepth 100000 in
theorem C_X11_waiting (Γ : Gam) (this : Nat) (p0 : Int32) (p1 : Int32) (p2 : Int32) (p3 : Int32) : Ct Γ mX11_waiting 3 vI [va_rf (some this), .int p0, .int p1, .int p2, .int p3] (F_X11_waiting this p0 p1 p2 p3) := by
  refine ct_in (lv := [(0, va_rf (some this)), (1, .int p0), (2, .int p1), (3, .int p2), (4, .int p3)]) (by decide) (by first | rfl | (simp only [lv_args, cat_rf]; rfl)) (by first | exact Nat.le_of_ble_eq_true rfl | (rw [lg_len]; simp only [List.map_cons, List.map_nil, cat_rf]; exact Nat.le_of_ble_eq_true rfl)) ?_
  unfold F_X11_waiting
  refine ok_iload_n (dd TX11_waiting_0 0 rfl) 2 rfl ?_
  refine ok_callSI [.int p1] [] (C_X11_isMonth Γ p1) cy_X11_isMonth ml_RX11_127 sm_X11_isMonth (by decide) (Nat.le_of_ble_eq_true rfl) rfl (dd TX11_waiting_0 1 rfl) (fun v1 => ?_)
  refine ok_if_ne (tgt := 9) (dd TX11_waiting_0 2 rfl) (by decide) ?_ ?_
  · refine ok_aload_n (dd TX11_waiting_0 5 rfl) 0 rfl ?_
    refine ok_gP fl_RX11_25 rfl (dd TX11_waiting_0 6 rfl) (fun v2 => ?_)
    refine ok_iload_n (dd TX11_waiting_0 7 rfl) 2 rfl ?_
    refine ok_lP5 (kd := 157) (by decide) rfl (dd TX11_waiting_0 8 rfl) (fun v3 => ?_)
    refine ok_iload_n (dd TX11_waiting_0 9 rfl) 1 rfl ?_
    refine ok_callVR (cn := 2) [.int p0] [] (fun b4 => C_X2_side Γ b4 p0) rfl cy_X2_side ml_RX11_135 im_X2_side se_X2_side (by decide) (Nat.le_of_ble_eq_true rfl) rfl (dd TX11_waiting_0 10 rfl) (fun v5 => ?_)
    refine ok_astore (lv' := [(5, va_rf v5), (0, va_rf (some this)), (1, .int p0), (2, .int p1), (3, .int p2), (4, .int p3)]) (dd TX11_waiting_0 11 rfl) (by decide) (by first | rfl | (simp only [List.filter, cat_rf]; rfl)) ?_
    refine ok_iload_n (dd TX11_waiting_0 12 rfl) 4 rfl ?_
    refine ok_if_lt (tgt := 34) (dd TX11_waiting_0 13 rfl) (by decide) ?_ ?_
    · refine ok_iconst (v := (-1 : Int32)) (dd TX11_waiting_0 18 rfl) (by decide) ?_
      exact ok_ireturn (dd TX11_waiting_0 19 rfl) rfl
    · refine ok_iload_n (dd TX11_waiting_0 14 rfl) 4 rfl ?_
      refine ok_aload (dd TX11_waiting_0 15 rfl) 0 rfl ?_
      refine ok_callVI (cn := 13) [] [.int p2] (fun b6 => C_Jx4a65c_size_8abf5 Γ b6) rfl cy_Jx4a65c_size_8abf5 ml_RX11_85 im_Jx4a65c_size_8abf5 se_Jx4a65c_size_8abf5 (by decide) (Nat.le_of_ble_eq_true rfl) rfl (dd TX11_waiting_0 16 rfl) (fun v7 => ?_)
      refine ok_icmp_lt (tgt := 36) (dd TX11_waiting_0 17 rfl) (by decide) ?_ ?_
      · refine ok_aload (dd TX11_waiting_0 20 rfl) 0 rfl ?_
        refine ok_iload_n (dd TX11_waiting_0 21 rfl) 4 rfl ?_
        refine ok_callVR (cn := 13) [.int p2] [] (fun b8 => C_Jx4a65c_get_915e3 Γ b8 p2) rfl cy_Jx4a65c_get_915e3 ml_RX11_139 im_Jx4a65c_get_915e3 se_Jx4a65c_get_915e3 (by decide) (Nat.le_of_ble_eq_true rfl) rfl (dd TX11_waiting_0 22 rfl) (fun v9 => ?_)
        refine ok_cst (cn := 9) rfl cl_RX11_115 (dd TX11_waiting_0 23 rfl) ?_
        refine ok_astore (lv' := [(6, va_rf v9), (5, va_rf v5), (0, va_rf (some this)), (1, .int p0), (2, .int p1), (3, .int p2), (4, .int p3)]) (dd TX11_waiting_0 24 rfl) (by decide) (by first | rfl | (simp only [List.filter, cat_rf]; rfl)) ?_
        refine ok_iload (dd TX11_waiting_0 25 rfl) 6 rfl ?_
        refine ok_tsw (dt := 94) (dd TX11_waiting_0 26 rfl) rfl (List.forall_mem_cons.mpr ⟨?_, List.forall_mem_cons.mpr ⟨?_, List.forall_mem_cons.mpr ⟨?_, fun _ h => absurd h List.not_mem_nil⟩⟩⟩) ?_
        · show Ok _ _ _ _ 76 _ _ (bn (gI 9 0 v9) fun v10 => rt v10)
          refine ok_aload (dd TX11_waiting_0 27 rfl) 0 rfl ?_
          refine ok_gI fl_RX11_143 rfl (dd TX11_waiting_0 28 rfl) (fun v10 => ?_)
          exact ok_ireturn (dd TX11_waiting_0 29 rfl) rfl
        · show Ok _ _ _ _ 82 _ _ (bn (gI 9 1 v9) fun v11 => rt v11)
          refine ok_aload (dd TX11_waiting_0 30 rfl) 0 rfl ?_
          refine ok_gI fl_RX11_146 rfl (dd TX11_waiting_0 31 rfl) (fun v11 => ?_)
          exact ok_ireturn (dd TX11_waiting_0 32 rfl) rfl
        · show Ok _ _ _ _ 88 _ _ (bn (gI 9 3 v9) fun v12 => rt v12)
          refine ok_aload (dd TX11_waiting_0 33 rfl) 0 rfl ?_
          refine ok_gI fl_RX11_149 rfl (dd TX11_waiting_0 34 rfl) (fun v12 => ?_)
          exact ok_ireturn (dd TX11_waiting_0 35 rfl) rfl
        · show Ok _ _ _ _ 94 _ _ (rt (-1 : Int32))
          refine ok_iconst (v := (-1 : Int32)) (dd TX11_waiting_0 36 rfl) (by decide) ?_
          exact ok_ireturn (dd TX11_waiting_0 37 rfl) rfl
      · refine ok_iconst (v := (-1 : Int32)) (dd TX11_waiting_0 18 rfl) (by decide) ?_
        exact ok_ireturn (dd TX11_waiting_0 19 rfl) rfl
  · refine ok_iconst (v := (-1 : Int32)) (dd TX11_waiting_0 3 rfl) (by decide) ?_
    exact ok_ireturn (dd TX11_waiting_0 4 rfl) rfl
def F_X11_trade (this : Nat) (p0 : Int32) (p1 : Int32) : M Int32 := bn (pRc 11 (some this)) fun b1 => bn (F_X11_tradeOf b1 p0) fun v2 => if ¬ v2 = none then swF p1 [((0 : Int32), 56, bn (gI 10 0 v2) fun v3 => rt v3), ((1 : Int32), 61, bn (gI 10 1 v2) fun v4 => rt v4), ((2 : Int32), 66, bn (gI 10 2 v2) fun v5 => rt v5), ((3 : Int32), 71, bn (gI 10 3 v2) fun v6 => rt v6), ((4 : Int32), 76, bn (gI 10 4 v2) fun v7 => rt v7), ((5 : Int32), 81, bn (gI 10 5 v2) fun v8 => rt v8), ((6 : Int32), 86, bn (gI 10 6 v2) fun v9 => if v9 = 0 then rt (0 : Int32) else rt (1 : Int32))] (rt (-1 : Int32)) else rt (-1 : Int32)
set_option maxRecDepth 100000 in
theorem C_X11_trade (Γ : Gam) (this : Nat) (p0 : Int32) (p1 : Int32) : Ct Γ mX11_trade 4 vI [va_rf (some this), .int p0, .int p1] (F_X11_trade this p0 p1) := by
  refine ct_in (lv := [(0, va_rf (some this)), (1, .int p0), (2, .int p1)]) (by decide) (by first | rfl | (simp only [lv_args, cat_rf]; rfl)) (by first | exact Nat.le_of_ble_eq_true rfl | (rw [lg_len]; simp only [List.map_cons, List.map_nil, cat_rf]; exact Nat.le_of_ble_eq_true rfl)) ?_
  unfold F_X11_trade
  refine ok_aload_n (dd TX11_trade_0 0 rfl) 0 rfl ?_
  refine ok_iload_n (dd TX11_trade_0 1 rfl) 1 rfl ?_
  refine ok_callVR (cn := 11) [.int p0] [] (fun b1 => C_X11_tradeOf Γ b1 p0) rfl cy_X11_tradeOf ml_RX11_152 im_X11_tradeOf se_X11_tradeOf (by decide) (Nat.le_of_ble_eq_true rfl) rfl (dd TX11_trade_0 2 rfl) (fun v2 => ?_)
  refine ok_astore_n (lv' := [(3, va_rf v2), (0, va_rf (some this)), (1, .int p0), (2, .int p1)]) (dd TX11_trade_0 3 rfl) (by decide) (by first | rfl | (simp only [List.filter, cat_rf]; rfl)) ?_
  refine ok_aload_n (dd TX11_trade_0 4 rfl) 0 rfl ?_
  refine ok_ifnonnull (tgt := 12) (dd TX11_trade_0 5 rfl) (by decide) ?_ ?_
  · refine ok_iload_n (dd TX11_trade_0 8 rfl) 3 rfl ?_
    refine ok_tsw (dt := 99) (dd TX11_trade_0 9 rfl) rfl (List.forall_mem_cons.mpr ⟨?_, List.forall_mem_cons.mpr ⟨?_, List.forall_mem_cons.mpr ⟨?_, List.forall_mem_cons.mpr ⟨?_, List.forall_mem_cons.mpr ⟨?_, List.forall_mem_cons.mpr ⟨?_, List.forall_mem_cons.mpr ⟨?_, fun _ h => absurd h List.not_mem_nil⟩⟩⟩⟩⟩⟩⟩) ?_
    · show Ok _ _ _ _ 56 _ _ (bn (gI 10 0 v2) fun v3 => rt v3)
      refine ok_aload_n (dd TX11_trade_0 10 rfl) 0 rfl ?_
      refine ok_gI fl_RX11_156 rfl (dd TX11_trade_0 11 rfl) (fun v3 => ?_)
      exact ok_ireturn (dd TX11_trade_0 12 rfl) rfl
    · show Ok _ _ _ _ 61 _ _ (bn (gI 10 1 v2) fun v4 => rt v4)
      refine ok_aload_n (dd TX11_trade_0 13 rfl) 0 rfl ?_
      refine ok_gI fl_RX11_161 rfl (dd TX11_trade_0 14 rfl) (fun v4 => ?_)
      exact ok_ireturn (dd TX11_trade_0 15 rfl) rfl
    · show Ok _ _ _ _ 66 _ _ (bn (gI 10 2 v2) fun v5 => rt v5)
      refine ok_aload_n (dd TX11_trade_0 16 rfl) 0 rfl ?_
      refine ok_gI fl_RX11_162 rfl (dd TX11_trade_0 17 rfl) (fun v5 => ?_)
      exact ok_ireturn (dd TX11_trade_0 18 rfl) rfl
    · show Ok _ _ _ _ 71 _ _ (bn (gI 10 3 v2) fun v6 => rt v6)
      refine ok_aload_n (dd TX11_trade_0 19 rfl) 0 rfl ?_
      refine ok_gI fl_RX11_163 rfl (dd TX11_trade_0 20 rfl) (fun v6 => ?_)
      exact ok_ireturn (dd TX11_trade_0 21 rfl) rfl
    · show Ok _ _ _ _ 76 _ _ (bn (gI 10 4 v2) fun v7 => rt v7)
      refine ok_aload_n (dd TX11_trade_0 22 rfl) 0 rfl ?_
      refine ok_gI fl_RX11_166 rfl (dd TX11_trade_0 23 rfl) (fun v7 => ?_)
      exact ok_ireturn (dd TX11_trade_0 24 rfl) rfl
    · show Ok _ _ _ _ 81 _ _ (bn (gI 10 5 v2) fun v8 => rt v8)
      refine ok_aload_n (dd TX11_trade_0 25 rfl) 0 rfl ?_
      refine ok_gI fl_RX11_169 rfl (dd TX11_trade_0 26 rfl) (fun v8 => ?_)
      exact ok_ireturn (dd TX11_trade_0 27 rfl) rfl
    · show Ok _ _ _ _ 86 _ _ (bn (gI 10 6 v2) fun v9 => if v9 = 0 then rt (0 : Int32) else rt (1 : Int32))
      refine ok_aload_n (dd TX11_trade_0 28 rfl) 0 rfl ?_
      refine ok_gZ fl_RX11_172 rfl (dd TX11_trade_0 29 rfl) (fun v9 => ?_)
      refine ok_if_eq (tgt := 97) (dd TX11_trade_0 30 rfl) (by decide) ?_ ?_
      · refine ok_iconst (v := (0 : Int32)) (dd TX11_trade_0 33 rfl) (by decide) ?_
        exact ok_ireturn (dd TX11_trade_0 34 rfl) rfl
      · refine ok_iconst (v := (1 : Int32)) (dd TX11_trade_0 31 rfl) (by decide) ?_
        refine ok_goto (tgt := 98) (dd TX11_trade_0 32 rfl) (by decide) ?_
        exact ok_ireturn (dd TX11_trade_0 34 rfl) rfl
    · show Ok _ _ _ _ 99 _ _ (rt (-1 : Int32))
      refine ok_iconst (v := (-1 : Int32)) (dd TX11_trade_0 35 rfl) (by decide) ?_
      exact ok_ireturn (dd TX11_trade_0 36 rfl) rfl
  · refine ok_iconst (v := (-1 : Int32)) (dd TX11_trade_0 6 rfl) (by decide) ?_
    exact ok_ireturn (dd TX11_trade_0 7 rfl) rfl
def F_X11_strike (this : Nat) (p0 : Int32) : M Int32 := bn (pRc 11 (some this)) fun b1 => bn (F_X11_tradeOf b1 p0) fun v2 => if v2 = none then rz (0 : Int32) else bn (gI 10 6 v2) fun v3 => if ¬ v3 = 0 then rz (0 : Int32) else bn (gP 11 2 (some this)) fun v4 => bn (gI 10 0 v2) fun v5 => bn (lP 157 v4 v5) fun v6 => bn (gI 2 3 v6) fun v7 => if ¬ v7 = 0 then rz (0 : Int32) else bn (gI 10 3 v2) fun v8 => bn (pRc 11 (some this)) fun b9 => bn (F_X11_inDefault b9 v8) fun v10 => if ¬ v10 = 0 then rz (0 : Int32) else bn (gI 10 4 v2) fun v11 => bn (pRc 11 (some this)) fun b12 => bn (F_X11_inDefault b12 v11) fun v13 => if v13 = 0 then bn (wZ 10 6 v2 (1 : Int32)) fun _ => bn (gI 10 4 v2) fun v14 => bn (gI 10 3 v2) fun v15 => bn (gI 10 0 v2) fun v16 => bn (gI 10 2 v2) fun v17 => bn (gI 10 1 v2) fun v18 => bn (pRc 11 (some this)) fun b19 => bn (F_X11_exchange b19 v14 v15 v16 v17 v18) fun _ => rz (1 : Int32) else rz (0 : Int32)
set_option maxRecDepth 100000 in
theorem C_X11_strike (Γ : Gam) (this : Nat) (p0 : Int32) : Ct Γ mX11_strike 8 vI [va_rf (some this), .int p0] (F_X11_strike this p0) := by
  refine ct_in (lv := [(0, va_rf (some this)), (1, .int p0)]) (by decide) (by first | rfl | (simp only [lv_args, cat_rf]; rfl)) (by first | exact Nat.le_of_ble_eq_true rfl | (rw [lg_len]; simp only [List.map_cons, List.map_nil, cat_rf]; exact Nat.le_of_ble_eq_true rfl)) ?_
  unfold F_X11_strike
  refine ok_aload_n (dd TX11_strike_0 0 rfl) 0 rfl ?_
  refine ok_iload_n (dd TX11_strike_0 1 rfl) 1 rfl ?_
  refine ok_callVR (cn := 11) [.int p0] [] (fun b1 => C_X11_tradeOf Γ b1 p0) rfl cy_X11_tradeOf ml_RX11_152 im_X11_tradeOf se_X11_tradeOf (by decide) (Nat.le_of_ble_eq_true rfl) rfl (dd TX11_strike_0 2 rfl) (fun v2 => ?_)
  refine ok_astore_n (lv' := [(2, va_rf v2), (0, va_rf (some this)), (1, .int p0)]) (dd TX11_strike_0 3 rfl) (by decide) (by first | rfl | (simp only [List.filter, cat_rf]; rfl)) ?_
  refine ok_aload_n (dd TX11_strike_0 4 rfl) 0 rfl ?_
  refine ok_ifnull (tgt := 54) (dd TX11_strike_0 5 rfl) (by decide) ?_ ?_
  · refine ok_iconst (v := (0 : Int32)) (dd TX11_strike_0 26 rfl) (by decide) ?_
    exact ok_zreturn (dd TX11_strike_0 27 rfl) rfl
  · refine ok_aload_n (dd TX11_strike_0 6 rfl) 0 rfl ?_
    refine ok_gZ fl_RX11_172 rfl (dd TX11_strike_0 7 rfl) (fun v3 => ?_)
    refine ok_if_ne (tgt := 54) (dd TX11_strike_0 8 rfl) (by decide) ?_ ?_
    · refine ok_iconst (v := (0 : Int32)) (dd TX11_strike_0 26 rfl) (by decide) ?_
      exact ok_zreturn (dd TX11_strike_0 27 rfl) rfl
    · refine ok_aload_n (dd TX11_strike_0 9 rfl) 1 rfl ?_
      refine ok_gP fl_RX11_25 rfl (dd TX11_strike_0 10 rfl) (fun v4 => ?_)
      refine ok_aload_n (dd TX11_strike_0 11 rfl) 0 rfl ?_
      refine ok_gI fl_RX11_156 rfl (dd TX11_strike_0 12 rfl) (fun v5 => ?_)
      refine ok_lP5 (kd := 157) (by decide) rfl (dd TX11_strike_0 13 rfl) (fun v6 => ?_)
      refine ok_gZ fl_RX11_176 rfl (dd TX11_strike_0 14 rfl) (fun v7 => ?_)
      refine ok_if_ne (tgt := 54) (dd TX11_strike_0 15 rfl) (by decide) ?_ ?_
      · refine ok_iconst (v := (0 : Int32)) (dd TX11_strike_0 26 rfl) (by decide) ?_
        exact ok_zreturn (dd TX11_strike_0 27 rfl) rfl
      · refine ok_aload_n (dd TX11_strike_0 16 rfl) 1 rfl ?_
        refine ok_aload_n (dd TX11_strike_0 17 rfl) 0 rfl ?_
        refine ok_gI fl_RX11_163 rfl (dd TX11_strike_0 18 rfl) (fun v8 => ?_)
        refine ok_callVI (cn := 11) [.int v8] [] (fun b9 => C_X11_inDefault Γ b9 v8) rfl cy_X11_inDefault ml_RX11_179 im_X11_inDefault se_X11_inDefault (by decide) (Nat.le_of_ble_eq_true rfl) rfl (dd TX11_strike_0 19 rfl) (fun v10 => ?_)
        refine ok_if_ne (tgt := 54) (dd TX11_strike_0 20 rfl) (by decide) ?_ ?_
        · refine ok_iconst (v := (0 : Int32)) (dd TX11_strike_0 26 rfl) (by decide) ?_
          exact ok_zreturn (dd TX11_strike_0 27 rfl) rfl
        · refine ok_aload_n (dd TX11_strike_0 21 rfl) 1 rfl ?_
          refine ok_aload_n (dd TX11_strike_0 22 rfl) 0 rfl ?_
          refine ok_gI fl_RX11_166 rfl (dd TX11_strike_0 23 rfl) (fun v11 => ?_)
          refine ok_callVI (cn := 11) [.int v11] [] (fun b12 => C_X11_inDefault Γ b12 v11) rfl cy_X11_inDefault ml_RX11_179 im_X11_inDefault se_X11_inDefault (by decide) (Nat.le_of_ble_eq_true rfl) rfl (dd TX11_strike_0 24 rfl) (fun v13 => ?_)
          refine ok_if_eq (tgt := 56) (dd TX11_strike_0 25 rfl) (by decide) ?_ ?_
          · refine ok_aload_n (dd TX11_strike_0 28 rfl) 0 rfl ?_
            refine ok_iconst (v := (1 : Int32)) (dd TX11_strike_0 29 rfl) (by decide) ?_
            refine ok_wZ fl_RX11_172 (Or.inl rfl) (tyX10_ok 6 (by decide)) (by decide) rfl (dd TX11_strike_0 30 rfl) ?_
            refine ok_aload_n (dd TX11_strike_0 31 rfl) 1 rfl ?_
            refine ok_aload_n (dd TX11_strike_0 32 rfl) 0 rfl ?_
            refine ok_gI fl_RX11_166 rfl (dd TX11_strike_0 33 rfl) (fun v14 => ?_)
            refine ok_aload_n (dd TX11_strike_0 34 rfl) 0 rfl ?_
            refine ok_gI fl_RX11_163 rfl (dd TX11_strike_0 35 rfl) (fun v15 => ?_)
            refine ok_aload_n (dd TX11_strike_0 36 rfl) 0 rfl ?_
            refine ok_gI fl_RX11_156 rfl (dd TX11_strike_0 37 rfl) (fun v16 => ?_)
            refine ok_aload_n (dd TX11_strike_0 38 rfl) 0 rfl ?_
            refine ok_gI fl_RX11_162 rfl (dd TX11_strike_0 39 rfl) (fun v17 => ?_)
            refine ok_aload_n (dd TX11_strike_1 0 rfl) 0 rfl ?_
            refine ok_gI fl_RX11_161 rfl (dd TX11_strike_1 1 rfl) (fun v18 => ?_)
            refine ok_callVV (cn := 11) [.int v14, .int v15, .int v16, .int v17, .int v18] [] (fun b19 => C_X11_exchange Γ b19 v14 v15 v16 v17 v18) rfl cy_X11_exchange ml_RX11_182 im_X11_exchange se_X11_exchange (by decide) (Nat.le_of_ble_eq_true rfl) rfl (dd TX11_strike_1 2 rfl) ?_
            refine ok_iconst (v := (1 : Int32)) (dd TX11_strike_1 3 rfl) (by decide) ?_
            exact ok_zreturn (dd TX11_strike_1 4 rfl) rfl
          · refine ok_iconst (v := (0 : Int32)) (dd TX11_strike_0 26 rfl) (by decide) ?_
            exact ok_zreturn (dd TX11_strike_0 27 rfl) rfl
def F_X11_longOf (this : Nat) (p0 : Int32) (p1 : Int32) (p2 : Int32) : M Int32 := bn (F_X11_isMonth p0) fun v1 => if v1 = 0 then rt (-1 : Int32) else if p1 < 0 then rt (-1 : Int32) else bn (gP 11 2 (some this)) fun v2 => bn (lP 157 v2 p0) fun v3 => bn (gP 2 2 v3) fun v4 => bn (pRc 13 v4) fun b5 => bn (F_Jx4a65c_size_8abf5 b5) fun v6 => if p1 < v6 then bn (gP 11 2 (some this)) fun v7 => bn (lP 157 v7 p0) fun v8 => bn (gP 2 2 v8) fun v9 => bn (pRc 13 v9) fun b10 => bn (F_Jx4a65c_get_915e3 b10 p1) fun v11 => bn (cst 9 v11) fun _ => swF p2 [((0 : Int32), 76, bn (gI 9 0 v11) fun v12 => rt v12), ((1 : Int32), 82, bn (gI 9 3 v11) fun v13 => rt v13)] (rt (-1 : Int32)) else rt (-1 : Int32)
set_option maxRecDepth 100000 in
theorem C_X11_longOf (Γ : Gam) (this : Nat) (p0 : Int32) (p1 : Int32) (p2 : Int32) : Ct Γ mX11_longOf 3 vI [va_rf (some this), .int p0, .int p1, .int p2] (F_X11_longOf this p0 p1 p2) := by
  refine ct_in (lv := [(0, va_rf (some this)), (1, .int p0), (2, .int p1), (3, .int p2)]) (by decide) (by first | rfl | (simp only [lv_args, cat_rf]; rfl)) (by first | exact Nat.le_of_ble_eq_true rfl | (rw [lg_len]; simp only [List.map_cons, List.map_nil, cat_rf]; exact Nat.le_of_ble_eq_true rfl)) ?_
  unfold F_X11_longOf
  refine ok_iload_n (dd TX11_longOf_0 0 rfl) 1 rfl ?_
  refine ok_callSI [.int p0] [] (C_X11_isMonth Γ p0) cy_X11_isMonth ml_RX11_127 sm_X11_isMonth (by decide) (Nat.le_of_ble_eq_true rfl) rfl (dd TX11_longOf_0 1 rfl) (fun v1 => ?_)
  refine ok_if_eq (tgt := 27) (dd TX11_longOf_0 2 rfl) (by decide) ?_ ?_
  · refine ok_iconst (v := (-1 : Int32)) (dd TX11_longOf_0 13 rfl) (by decide) ?_
    exact ok_ireturn (dd TX11_longOf_0 14 rfl) rfl
  · refine ok_iload_n (dd TX11_longOf_0 3 rfl) 2 rfl ?_
    refine ok_if_lt (tgt := 27) (dd TX11_longOf_0 4 rfl) (by decide) ?_ ?_
    · refine ok_iconst (v := (-1 : Int32)) (dd TX11_longOf_0 13 rfl) (by decide) ?_
      exact ok_ireturn (dd TX11_longOf_0 14 rfl) rfl
    · refine ok_iload_n (dd TX11_longOf_0 5 rfl) 2 rfl ?_
      refine ok_aload_n (dd TX11_longOf_0 6 rfl) 0 rfl ?_
      refine ok_gP fl_RX11_25 rfl (dd TX11_longOf_0 7 rfl) (fun v2 => ?_)
      refine ok_iload_n (dd TX11_longOf_0 8 rfl) 1 rfl ?_
      refine ok_lP5 (kd := 157) (by decide) rfl (dd TX11_longOf_0 9 rfl) (fun v3 => ?_)
      refine ok_gP fl_RX11_244 rfl (dd TX11_longOf_0 10 rfl) (fun v4 => ?_)
      refine ok_callVI (cn := 13) [] [.int p1] (fun b5 => C_Jx4a65c_size_8abf5 Γ b5) rfl cy_Jx4a65c_size_8abf5 ml_RX11_85 im_Jx4a65c_size_8abf5 se_Jx4a65c_size_8abf5 (by decide) (Nat.le_of_ble_eq_true rfl) rfl (dd TX11_longOf_0 11 rfl) (fun v6 => ?_)
      refine ok_icmp_lt (tgt := 29) (dd TX11_longOf_0 12 rfl) (by decide) ?_ ?_
      · refine ok_aload_n (dd TX11_longOf_0 15 rfl) 0 rfl ?_
        refine ok_gP fl_RX11_25 rfl (dd TX11_longOf_0 16 rfl) (fun v7 => ?_)
        refine ok_iload_n (dd TX11_longOf_0 17 rfl) 1 rfl ?_
        refine ok_lP5 (kd := 157) (by decide) rfl (dd TX11_longOf_0 18 rfl) (fun v8 => ?_)
        refine ok_gP fl_RX11_244 rfl (dd TX11_longOf_0 19 rfl) (fun v9 => ?_)
        refine ok_iload_n (dd TX11_longOf_0 20 rfl) 2 rfl ?_
        refine ok_callVR (cn := 13) [.int p1] [] (fun b10 => C_Jx4a65c_get_915e3 Γ b10 p1) rfl cy_Jx4a65c_get_915e3 ml_RX11_139 im_Jx4a65c_get_915e3 se_Jx4a65c_get_915e3 (by decide) (Nat.le_of_ble_eq_true rfl) rfl (dd TX11_longOf_0 21 rfl) (fun v11 => ?_)
        refine ok_cst (cn := 9) rfl cl_RX11_115 (dd TX11_longOf_0 22 rfl) ?_
        refine ok_astore (lv' := [(4, va_rf v11), (0, va_rf (some this)), (1, .int p0), (2, .int p1), (3, .int p2)]) (dd TX11_longOf_0 23 rfl) (by decide) (by first | rfl | (simp only [List.filter, cat_rf]; rfl)) ?_
        refine ok_iload_n (dd TX11_longOf_0 24 rfl) 4 rfl ?_
        refine ok_lsw (dt := 88) (dd TX11_longOf_0 25 rfl) rfl (List.forall_mem_cons.mpr ⟨?_, List.forall_mem_cons.mpr ⟨?_, fun _ h => absurd h List.not_mem_nil⟩⟩) ?_
        · show Ok _ _ _ _ 76 _ _ (bn (gI 9 0 v11) fun v12 => rt v12)
          refine ok_aload (dd TX11_longOf_0 26 rfl) 0 rfl ?_
          refine ok_gI fl_RX11_143 rfl (dd TX11_longOf_0 27 rfl) (fun v12 => ?_)
          exact ok_ireturn (dd TX11_longOf_0 28 rfl) rfl
        · show Ok _ _ _ _ 82 _ _ (bn (gI 9 3 v11) fun v13 => rt v13)
          refine ok_aload (dd TX11_longOf_0 29 rfl) 0 rfl ?_
          refine ok_gI fl_RX11_149 rfl (dd TX11_longOf_0 30 rfl) (fun v13 => ?_)
          exact ok_ireturn (dd TX11_longOf_0 31 rfl) rfl
        · show Ok _ _ _ _ 88 _ _ (rt (-1 : Int32))
          refine ok_iconst (v := (-1 : Int32)) (dd TX11_longOf_0 32 rfl) (by decide) ?_
          exact ok_ireturn (dd TX11_longOf_0 33 rfl) rfl
      · refine ok_iconst (v := (-1 : Int32)) (dd TX11_longOf_0 13 rfl) (by decide) ?_
        exact ok_ireturn (dd TX11_longOf_0 14 rfl) rfl
def F_X11_count (this : Nat) (p0 : Int32) : M Int32 := swF p0 [((0 : Int32), 52, bn (gI 11 8 (some this)) fun v1 => rt v1), ((1 : Int32), 57, bn (gP 11 3 (some this)) fun v2 => bn (pRc 13 v2) fun b3 => bn (F_Jx4a65c_size_8abf5 b3) fun v4 => rt v4), ((2 : Int32), 65, bn (gP 11 4 (some this)) fun v5 => bn (pRc 13 v5) fun b6 => bn (F_Jx4a65c_size_8abf5 b6) fun v7 => rt v7), ((3 : Int32), 73, bn (pRc 11 (some this)) fun b8 => bn (F_X11_allWaiting b8) fun v9 => rt v9), ((4 : Int32), 78, bn (gP 11 1 (some this)) fun v10 => bn (gP 7 0 v10) fun v11 => bn (pRc 13 v11) fun b12 => bn (F_Jx4a65c_size_8abf5 b12) fun v13 => rt v13), ((5 : Int32), 89, bn (gP 11 5 (some this)) fun v14 => bn (pRc 13 v14) fun b15 => bn (F_Jx4a65c_size_8abf5 b15) fun v16 => rt v16), ((6 : Int32), 97, bn (gP 11 6 (some this)) fun v17 => bn (pRc 13 v17) fun b18 => bn (F_Jx4a65c_size_8abf5 b18) fun v19 => rt v19), ((7 : Int32), 105, bn (pRc 11 (some this)) fun b20 => bn (F_X11_allHeld b20) fun v21 => rt v21), ((8 : Int32), 110, bn (gP 11 0 (some this)) fun v22 => bn (gI 4 1 v22) fun v23 => rt v23)] (rt (-1 : Int32))
set_option maxRecDepth 100000 in
theorem C_X11_count (Γ : Gam) (this : Nat) (p0 : Int32) : Ct Γ mX11_count 4 vI [va_rf (some this), .int p0] (F_X11_count this p0) := by
  refine ct_in (lv := [(0, va_rf (some this)), (1, .int p0)]) (by decide) (by first | rfl | (simp only [lv_args, cat_rf]; rfl)) (by first | exact Nat.le_of_ble_eq_true rfl | (rw [lg_len]; simp only [List.map_cons, List.map_nil, cat_rf]; exact Nat.le_of_ble_eq_true rfl)) ?_
  unfold F_X11_count
  refine ok_iload_n (dd TX11_count_0 0 rfl) 1 rfl ?_
  refine ok_tsw (dt := 118) (dd TX11_count_0 1 rfl) rfl (List.forall_mem_cons.mpr ⟨?_, List.forall_mem_cons.mpr ⟨?_, List.forall_mem_cons.mpr ⟨?_, List.forall_mem_cons.mpr ⟨?_, List.forall_mem_cons.mpr ⟨?_, List.forall_mem_cons.mpr ⟨?_, List.forall_mem_cons.mpr ⟨?_, List.forall_mem_cons.mpr ⟨?_, List.forall_mem_cons.mpr ⟨?_, fun _ h => absurd h List.not_mem_nil⟩⟩⟩⟩⟩⟩⟩⟩⟩) ?_
  · show Ok _ _ _ _ 52 _ _ (bn (gI 11 8 (some this)) fun v1 => rt v1)
    refine ok_aload_n (dd TX11_count_0 2 rfl) 0 rfl ?_
    refine ok_gI fl_RX11_186 rfl (dd TX11_count_0 3 rfl) (fun v1 => ?_)
    exact ok_ireturn (dd TX11_count_0 4 rfl) rfl
  · show Ok _ _ _ _ 57 _ _ (bn (gP 11 3 (some this)) fun v2 => bn (pRc 13 v2) fun b3 => bn (F_Jx4a65c_size_8abf5 b3) fun v4 => rt v4)
    refine ok_aload_n (dd TX11_count_0 5 rfl) 0 rfl ?_
    refine ok_gP fl_RX11_33 rfl (dd TX11_count_0 6 rfl) (fun v2 => ?_)
    refine ok_callVI (cn := 13) [] [] (fun b3 => C_Jx4a65c_size_8abf5 Γ b3) rfl cy_Jx4a65c_size_8abf5 ml_RX11_85 im_Jx4a65c_size_8abf5 se_Jx4a65c_size_8abf5 (by decide) (Nat.le_of_ble_eq_true rfl) rfl (dd TX11_count_0 7 rfl) (fun v4 => ?_)
    exact ok_ireturn (dd TX11_count_0 8 rfl) rfl
  · show Ok _ _ _ _ 65 _ _ (bn (gP 11 4 (some this)) fun v5 => bn (pRc 13 v5) fun b6 => bn (F_Jx4a65c_size_8abf5 b6) fun v7 => rt v7)
    refine ok_aload_n (dd TX11_count_0 9 rfl) 0 rfl ?_
    refine ok_gP fl_RX11_37 rfl (dd TX11_count_0 10 rfl) (fun v5 => ?_)
    refine ok_callVI (cn := 13) [] [] (fun b6 => C_Jx4a65c_size_8abf5 Γ b6) rfl cy_Jx4a65c_size_8abf5 ml_RX11_85 im_Jx4a65c_size_8abf5 se_Jx4a65c_size_8abf5 (by decide) (Nat.le_of_ble_eq_true rfl) rfl (dd TX11_count_0 11 rfl) (fun v7 => ?_)
    exact ok_ireturn (dd TX11_count_0 12 rfl) rfl
  · show Ok _ _ _ _ 73 _ _ (bn (pRc 11 (some this)) fun b8 => bn (F_X11_allWaiting b8) fun v9 => rt v9)
    refine ok_aload_n (dd TX11_count_0 13 rfl) 0 rfl ?_
    refine ok_callVI (cn := 11) [] [] (fun b8 => C_X11_allWaiting Γ b8) rfl cy_X11_allWaiting ml_RX11_247 im_X11_allWaiting se_X11_allWaiting (by decide) (Nat.le_of_ble_eq_true rfl) rfl (dd TX11_count_0 14 rfl) (fun v9 => ?_)
    exact ok_ireturn (dd TX11_count_0 15 rfl) rfl
  · show Ok _ _ _ _ 78 _ _ (bn (gP 11 1 (some this)) fun v10 => bn (gP 7 0 v10) fun v11 => bn (pRc 13 v11) fun b12 => bn (F_Jx4a65c_size_8abf5 b12) fun v13 => rt v13)
    refine ok_aload_n (dd TX11_count_0 16 rfl) 0 rfl ?_
    refine ok_gP fl_RX11_19 rfl (dd TX11_count_0 17 rfl) (fun v10 => ?_)
    refine ok_gP fl_RX11_61 rfl (dd TX11_count_0 18 rfl) (fun v11 => ?_)
    refine ok_callVI (cn := 13) [] [] (fun b12 => C_Jx4a65c_size_8abf5 Γ b12) rfl cy_Jx4a65c_size_8abf5 ml_RX11_85 im_Jx4a65c_size_8abf5 se_Jx4a65c_size_8abf5 (by decide) (Nat.le_of_ble_eq_true rfl) rfl (dd TX11_count_0 19 rfl) (fun v13 => ?_)
    exact ok_ireturn (dd TX11_count_0 20 rfl) rfl
  · show Ok _ _ _ _ 89 _ _ (bn (gP 11 5 (some this)) fun v14 => bn (pRc 13 v14) fun b15 => bn (F_Jx4a65c_size_8abf5 b15) fun v16 => rt v16)
    refine ok_aload_n (dd TX11_count_0 21 rfl) 0 rfl ?_
    refine ok_gP fl_RX11_40 rfl (dd TX11_count_0 22 rfl) (fun v14 => ?_)
    refine ok_callVI (cn := 13) [] [] (fun b15 => C_Jx4a65c_size_8abf5 Γ b15) rfl cy_Jx4a65c_size_8abf5 ml_RX11_85 im_Jx4a65c_size_8abf5 se_Jx4a65c_size_8abf5 (by decide) (Nat.le_of_ble_eq_true rfl) rfl (dd TX11_count_0 23 rfl) (fun v16 => ?_)
    exact ok_ireturn (dd TX11_count_0 24 rfl) rfl
  · show Ok _ _ _ _ 97 _ _ (bn (gP 11 6 (some this)) fun v17 => bn (pRc 13 v17) fun b18 => bn (F_Jx4a65c_size_8abf5 b18) fun v19 => rt v19)
    refine ok_aload_n (dd TX11_count_0 25 rfl) 0 rfl ?_
    refine ok_gP fl_RX11_43 rfl (dd TX11_count_0 26 rfl) (fun v17 => ?_)
    refine ok_callVI (cn := 13) [] [] (fun b18 => C_Jx4a65c_size_8abf5 Γ b18) rfl cy_Jx4a65c_size_8abf5 ml_RX11_85 im_Jx4a65c_size_8abf5 se_Jx4a65c_size_8abf5 (by decide) (Nat.le_of_ble_eq_true rfl) rfl (dd TX11_count_0 27 rfl) (fun v19 => ?_)
    exact ok_ireturn (dd TX11_count_0 28 rfl) rfl
  · show Ok _ _ _ _ 105 _ _ (bn (pRc 11 (some this)) fun b20 => bn (F_X11_allHeld b20) fun v21 => rt v21)
    refine ok_aload_n (dd TX11_count_0 29 rfl) 0 rfl ?_
    refine ok_callVI (cn := 11) [] [] (fun b20 => C_X11_allHeld Γ b20) rfl cy_X11_allHeld ml_RX11_250 im_X11_allHeld se_X11_allHeld (by decide) (Nat.le_of_ble_eq_true rfl) rfl (dd TX11_count_0 30 rfl) (fun v21 => ?_)
    exact ok_ireturn (dd TX11_count_0 31 rfl) rfl
  · show Ok _ _ _ _ 110 _ _ (bn (gP 11 0 (some this)) fun v22 => bn (gI 4 1 v22) fun v23 => rt v23)
    refine ok_aload_n (dd TX11_count_0 32 rfl) 0 rfl ?_
    refine ok_gP fl_RX11_10 rfl (dd TX11_count_0 33 rfl) (fun v22 => ?_)
    refine ok_gI fl_RX11_57 rfl (dd TX11_count_0 34 rfl) (fun v23 => ?_)
    exact ok_ireturn (dd TX11_count_0 35 rfl) rfl
  · show Ok _ _ _ _ 118 _ _ (rt (-1 : Int32))
    refine ok_iconst (v := (-1 : Int32)) (dd TX11_count_0 36 rfl) (by decide) ?_
    exact ok_ireturn (dd TX11_count_0 37 rfl) rfl
def F_X11_deliver (this : Nat) (p0 : Int32) : M Int32 := bn (F_X11_isMonth p0) fun v1 => if v1 = 0 then rz (0 : Int32) else bn (gP 11 2 (some this)) fun v2 => bn (lP 157 v2 p0) fun v3 => bn (gI 2 3 v3) fun v4 => if v4 = 0 then bn (gP 11 2 (some this)) fun v5 => bn (lP 157 v5 p0) fun v6 => bn (wZ 2 3 v6 (1 : Int32)) fun _ => bn (gP 11 2 (some this)) fun v7 => bn (lP 157 v7 p0) fun v8 => bn (pRc 2 v8) fun b9 => bn (F_X2_dropAll b9) fun _ => rz (1 : Int32) else rz (0 : Int32)
set_option maxRecDepth 100000 in
theorem C_X11_deliver (Γ : Gam) (this : Nat) (p0 : Int32) : Ct Γ mX11_deliver 2 vI [va_rf (some this), .int p0] (F_X11_deliver this p0) := by
  refine ct_in (lv := [(0, va_rf (some this)), (1, .int p0)]) (by decide) (by first | rfl | (simp only [lv_args, cat_rf]; rfl)) (by first | exact Nat.le_of_ble_eq_true rfl | (rw [lg_len]; simp only [List.map_cons, List.map_nil, cat_rf]; exact Nat.le_of_ble_eq_true rfl)) ?_
  unfold F_X11_deliver
  refine ok_iload_n (dd TX11_deliver_0 0 rfl) 1 rfl ?_
  refine ok_callSI [.int p0] [] (C_X11_isMonth Γ p0) cy_X11_isMonth ml_RX11_127 sm_X11_isMonth (by decide) (Nat.le_of_ble_eq_true rfl) rfl (dd TX11_deliver_0 1 rfl) (fun v1 => ?_)
  refine ok_if_eq (tgt := 19) (dd TX11_deliver_0 2 rfl) (by decide) ?_ ?_
  · refine ok_iconst (v := (0 : Int32)) (dd TX11_deliver_0 9 rfl) (by decide) ?_
    exact ok_zreturn (dd TX11_deliver_0 10 rfl) rfl
  · refine ok_aload_n (dd TX11_deliver_0 3 rfl) 0 rfl ?_
    refine ok_gP fl_RX11_25 rfl (dd TX11_deliver_0 4 rfl) (fun v2 => ?_)
    refine ok_iload_n (dd TX11_deliver_0 5 rfl) 1 rfl ?_
    refine ok_lP5 (kd := 157) (by decide) rfl (dd TX11_deliver_0 6 rfl) (fun v3 => ?_)
    refine ok_gZ fl_RX11_176 rfl (dd TX11_deliver_0 7 rfl) (fun v4 => ?_)
    refine ok_if_eq (tgt := 21) (dd TX11_deliver_0 8 rfl) (by decide) ?_ ?_
    · refine ok_aload_n (dd TX11_deliver_0 11 rfl) 0 rfl ?_
      refine ok_gP fl_RX11_25 rfl (dd TX11_deliver_0 12 rfl) (fun v5 => ?_)
      refine ok_iload_n (dd TX11_deliver_0 13 rfl) 1 rfl ?_
      refine ok_lP5 (kd := 157) (by decide) rfl (dd TX11_deliver_0 14 rfl) (fun v6 => ?_)
      refine ok_iconst (v := (1 : Int32)) (dd TX11_deliver_0 15 rfl) (by decide) ?_
      refine ok_wZ fl_RX11_176 (Or.inl rfl) (tyX2_ok 3 (by decide)) (by decide) rfl (dd TX11_deliver_0 16 rfl) ?_
      refine ok_aload_n (dd TX11_deliver_0 17 rfl) 0 rfl ?_
      refine ok_gP fl_RX11_25 rfl (dd TX11_deliver_0 18 rfl) (fun v7 => ?_)
      refine ok_iload_n (dd TX11_deliver_0 19 rfl) 1 rfl ?_
      refine ok_lP5 (kd := 157) (by decide) rfl (dd TX11_deliver_0 20 rfl) (fun v8 => ?_)
      refine ok_callVV (cn := 2) [] [] (fun b9 => C_X2_dropAll Γ b9) rfl cy_X2_dropAll ml_RX11_193 im_X2_dropAll se_X2_dropAll (by decide) (Nat.le_of_ble_eq_true rfl) rfl (dd TX11_deliver_0 21 rfl) ?_
      refine ok_iconst (v := (1 : Int32)) (dd TX11_deliver_0 22 rfl) (by decide) ?_
      exact ok_zreturn (dd TX11_deliver_0 23 rfl) rfl
    · refine ok_iconst (v := (0 : Int32)) (dd TX11_deliver_0 9 rfl) (by decide) ?_
      exact ok_zreturn (dd TX11_deliver_0 10 rfl) rfl
