def F_J3_checkIndex_8e157_L9 (x0 : Int32) (x1 : Int32) (x2 : Option Nat) : M Int32 := fl
set_option maxRecDepth 100000 in
theorem O_J3_checkIndex_8e157_L9 (Γ : Gam) (x0 : Int32) (x1 : Int32) (x2 : Option Nat) : Ok Γ mJ3_checkIndex_8e157 0 (qo Γ vI) 9 [(0, .int x0), (1, .int x1), (2, va_rf x2)] [] (F_J3_checkIndex_8e157_L9 x0 x1 x2) := by
  unfold F_J3_checkIndex_8e157_L9
  exact ok_fl
def F_J3_checkIndex_8e157 (p0 : Int32) (p1 : Int32) (p2 : Option Nat) : M Int32 := if p0 < 0 then F_J3_checkIndex_8e157_L9 p0 p1 p2 else if p0 < p1 then rt p0 else F_J3_checkIndex_8e157_L9 p0 p1 p2
set_option maxRecDepth 100000 in
theorem C_J3_checkIndex_8e157 (Γ : Gam) (p0 : Int32) (p1 : Int32) (p2 : Option Nat) : Ct Γ mJ3_checkIndex_8e157 0 vI [.int p0, .int p1, va_rf p2] (F_J3_checkIndex_8e157 p0 p1 p2) := by
  refine ct_in (lv := [(0, .int p0), (1, .int p1), (2, va_rf p2)]) (by decide) (by first | rfl | (simp only [lv_args, cat_rf]; rfl)) (by first | exact Nat.le_of_ble_eq_true rfl | (rw [lg_len]; simp only [List.map_cons, List.map_nil, cat_rf]; exact Nat.le_of_ble_eq_true rfl)) ?_
  unfold F_J3_checkIndex_8e157
  refine ok_iload_n (dd TJ3_checkIndex_8e157_0 0 rfl) 0 rfl ?_
  refine ok_if_lt (tgt := 9) (dd TJ3_checkIndex_8e157_0 1 rfl) (by decide) ?_ ?_
  · exact O_J3_checkIndex_8e157_L9 Γ p0 p1 p2
  · refine ok_iload_n (dd TJ3_checkIndex_8e157_0 2 rfl) 0 rfl ?_
    refine ok_iload_n (dd TJ3_checkIndex_8e157_0 3 rfl) 1 rfl ?_
    refine ok_icmp_lt (tgt := 16) (dd TJ3_checkIndex_8e157_0 4 rfl) (by decide) ?_ ?_
    · refine ok_iload_n (dd TJ3_checkIndex_8e157_0 10 rfl) 0 rfl ?_
      exact ok_ireturn (dd TJ3_checkIndex_8e157_0 11 rfl) rfl
    · exact O_J3_checkIndex_8e157_L9 Γ p0 p1 p2
def F_J15_checkIndex_7cf53 (p0 : Int32) (p1 : Int32) : M Int32 := bn (F_J3_checkIndex_8e157 p0 p1 none) fun v1 => rt v1
set_option maxRecDepth 100000 in
theorem C_J15_checkIndex_7cf53 (Γ : Gam) (p0 : Int32) (p1 : Int32) : Ct Γ mJ15_checkIndex_7cf53 1 vI [.int p0, .int p1] (F_J15_checkIndex_7cf53 p0 p1) := by
  refine ct_in (lv := [(0, .int p0), (1, .int p1)]) (by decide) (by first | rfl | (simp only [lv_args, cat_rf]; rfl)) (by first | exact Nat.le_of_ble_eq_true rfl | (rw [lg_len]; simp only [List.map_cons, List.map_nil, cat_rf]; exact Nat.le_of_ble_eq_true rfl)) ?_
  unfold F_J15_checkIndex_7cf53
  refine ok_iload_n (dd TJ15_checkIndex_7cf53_0 0 rfl) 0 rfl ?_
  refine ok_iload_n (dd TJ15_checkIndex_7cf53_0 1 rfl) 1 rfl ?_
  refine ok_null (dd TJ15_checkIndex_7cf53_0 2 rfl) ?_
  refine ok_callSI [.int p0, .int p1, va_rf none] [] (C_J3_checkIndex_8e157 Γ p0 p1 none) cy_J3_checkIndex_8e157 ml_RJ15_105 sm_J3_checkIndex_8e157 (by decide) (Nat.le_of_ble_eq_true rfl) rfl (dd TJ15_checkIndex_7cf53_0 3 rfl) (fun v1 => ?_)
  exact ok_ireturn (dd TJ15_checkIndex_7cf53_0 4 rfl) rfl
def F_Jxa1e45_init_da8c8 (this : Nat) : M Unit := rt ()
set_option maxRecDepth 100000 in
theorem C_Jxa1e45_init_da8c8 (Γ : Gam) (this : Nat) : Ct Γ mJxa1e45_init_da8c8 1 vV [va_rf (some this)] (F_Jxa1e45_init_da8c8 this) := by
  refine ct_in (lv := [(0, va_rf (some this))]) (by decide) (by first | rfl | (simp only [lv_args, cat_rf]; rfl)) (by first | exact Nat.le_of_ble_eq_true rfl | (rw [lg_len]; simp only [List.map_cons, List.map_nil, cat_rf]; exact Nat.le_of_ble_eq_true rfl)) ?_
  unfold F_Jxa1e45_init_da8c8
  refine ok_aload_n (dd TJxa1e45_init_da8c8_0 0 rfl) 0 rfl ?_
  refine ok_objInit ml_RJxa1e45_1 w_oi w_oc ⟨_, rfl⟩ (by decide) (Nat.le_of_ble_eq_true rfl) (dd TJxa1e45_init_da8c8_0 1 rfl) ?_
  exact ok_return (dd TJxa1e45_init_da8c8_0 2 rfl) rfl
def F_Jxc12de_init_da8c8 (this : Nat) : M Unit := bn (pRc 13 (some this)) fun b1 => bn (F_Jxa1e45_init_da8c8 b1) fun _ => bn (wI 13 0 (some this) (0 : Int32)) fun _ => rt ()
set_option maxRecDepth 100000 in
theorem C_Jxc12de_init_da8c8 (Γ : Gam) (this : Nat) : Ct Γ mJxc12de_init_da8c8 2 vV [va_rf (some this)] (F_Jxc12de_init_da8c8 this) := by
  refine ct_in (lv := [(0, va_rf (some this))]) (by decide) (by first | rfl | (simp only [lv_args, cat_rf]; rfl)) (by first | exact Nat.le_of_ble_eq_true rfl | (rw [lg_len]; simp only [List.map_cons, List.map_nil, cat_rf]; exact Nat.le_of_ble_eq_true rfl)) ?_
  unfold F_Jxc12de_init_da8c8
  refine ok_aload_n (dd TJxc12de_init_da8c8_0 0 rfl) 0 rfl ?_
  refine ok_callI (cn := 13) [] [] (fun b1 => C_Jxa1e45_init_da8c8 Γ b1) cy_Jxa1e45_init_da8c8 rfl rfl ml_RJxc12de_1 im_Jxa1e45_init_da8c8 (by decide) (Nat.le_of_ble_eq_true rfl) rfl (dd TJxc12de_init_da8c8_0 1 rfl) ?_
  refine ok_aload_n (dd TJxc12de_init_da8c8_0 2 rfl) 0 rfl ?_
  refine ok_iconst (v := (0 : Int32)) (dd TJxc12de_init_da8c8_0 3 rfl) (by decide) ?_
  refine ok_wI fl_RJxc12de_7 (Or.inl rfl) (tyJx4a65c_ok 0 (by decide)) (by decide) rfl (dd TJxc12de_init_da8c8_0 4 rfl) ?_
  exact ok_return (dd TJxc12de_init_da8c8_0 5 rfl) rfl
def F_Jx4a65c_init_da8c8 (this : Nat) : M Unit := bn (pRc 13 (some this)) fun b1 => bn (F_Jxc12de_init_da8c8 b1) fun _ => bn (cK 0) fun r2 => bn (wP 13 1 (some this) r2) fun _ => rt ()
set_option maxRecDepth 100000 in
theorem C_Jx4a65c_init_da8c8 (Γ : Gam) (this : Nat) : Ct Γ mJx4a65c_init_da8c8 3 vV [va_rf (some this)] (F_Jx4a65c_init_da8c8 this) := by
  refine ct_in (lv := [(0, va_rf (some this))]) (by decide) (by first | rfl | (simp only [lv_args, cat_rf]; rfl)) (by first | exact Nat.le_of_ble_eq_true rfl | (rw [lg_len]; simp only [List.map_cons, List.map_nil, cat_rf]; exact Nat.le_of_ble_eq_true rfl)) ?_
  unfold F_Jx4a65c_init_da8c8
  refine ok_aload_n (dd TJx4a65c_init_da8c8_0 0 rfl) 0 rfl ?_
  refine ok_callI (cn := 13) [] [] (fun b1 => C_Jxc12de_init_da8c8 Γ b1) cy_Jxc12de_init_da8c8 rfl rfl ml_RJx4a65c_1 im_Jxc12de_init_da8c8 (by decide) (Nat.le_of_ble_eq_true rfl) rfl (dd TJx4a65c_init_da8c8_0 1 rfl) ?_
  refine ok_aload_n (dd TJx4a65c_init_da8c8_0 2 rfl) 0 rfl ?_
  refine ok_getS0 gs_RJx4a65c_39 (dd TJx4a65c_init_da8c8_0 3 rfl) (fun r2 => ?_)
  refine ok_wP fl_RJx4a65c_9 (Or.inl rfl) (tyJx4a65c_ok 1 (by decide)) rf_arr (by decide) rfl (dd TJx4a65c_init_da8c8_0 4 rfl) ?_
  exact ok_return (dd TJx4a65c_init_da8c8_0 5 rfl) rfl
def F_Jx4a65c_size_8abf5 (this : Nat) : M Int32 := bn (gI 13 2 (some this)) fun v1 => rt v1
set_option maxRecDepth 100000 in
theorem C_Jx4a65c_size_8abf5 (Γ : Gam) (this : Nat) : Ct Γ mJx4a65c_size_8abf5 0 vI [va_rf (some this)] (F_Jx4a65c_size_8abf5 this) := by
  refine ct_in (lv := [(0, va_rf (some this))]) (by decide) (by first | rfl | (simp only [lv_args, cat_rf]; rfl)) (by first | exact Nat.le_of_ble_eq_true rfl | (rw [lg_len]; simp only [List.map_cons, List.map_nil, cat_rf]; exact Nat.le_of_ble_eq_true rfl)) ?_
  unfold F_Jx4a65c_size_8abf5
  refine ok_aload_n (dd TJx4a65c_size_8abf5_0 0 rfl) 0 rfl ?_
  refine ok_gI fl_RJx4a65c_48 rfl (dd TJx4a65c_size_8abf5_0 1 rfl) (fun v1 => ?_)
  exact ok_ireturn (dd TJx4a65c_size_8abf5_0 2 rfl) rfl
def F_Jx4a65c_isEmpty_aae02 (this : Nat) : M Int32 := bn (gI 13 2 (some this)) fun v1 => if ¬ v1 = 0 then rz (0 : Int32) else rz (1 : Int32)
set_option maxRecDepth 100000 in
theorem C_Jx4a65c_isEmpty_aae02 (Γ : Gam) (this : Nat) : Ct Γ mJx4a65c_isEmpty_aae02 0 vI [va_rf (some this)] (F_Jx4a65c_isEmpty_aae02 this) := by
  refine ct_in (lv := [(0, va_rf (some this))]) (by decide) (by first | rfl | (simp only [lv_args, cat_rf]; rfl)) (by first | exact Nat.le_of_ble_eq_true rfl | (rw [lg_len]; simp only [List.map_cons, List.map_nil, cat_rf]; exact Nat.le_of_ble_eq_true rfl)) ?_
  unfold F_Jx4a65c_isEmpty_aae02
  refine ok_aload_n (dd TJx4a65c_isEmpty_aae02_0 0 rfl) 0 rfl ?_
  refine ok_gI fl_RJx4a65c_48 rfl (dd TJx4a65c_isEmpty_aae02_0 1 rfl) (fun v1 => ?_)
  refine ok_if_ne (tgt := 11) (dd TJx4a65c_isEmpty_aae02_0 2 rfl) (by decide) ?_ ?_
  · refine ok_iconst (v := (0 : Int32)) (dd TJx4a65c_isEmpty_aae02_0 5 rfl) (by decide) ?_
    exact ok_zreturn (dd TJx4a65c_isEmpty_aae02_0 6 rfl) rfl
  · refine ok_iconst (v := (1 : Int32)) (dd TJx4a65c_isEmpty_aae02_0 3 rfl) (by decide) ?_
    refine ok_goto (tgt := 12) (dd TJx4a65c_isEmpty_aae02_0 4 rfl) (by decide) ?_
    exact ok_zreturn (dd TJx4a65c_isEmpty_aae02_0 6 rfl) rfl
def F_Jx4a65c_elementData_915e3 (this : Nat) (p0 : Int32) : M (Option Nat) := bn (gP 13 1 (some this)) fun v1 => bn (lP 372 v1 p0) fun v2 => rt v2
set_option maxRecDepth 100000 in
theorem C_Jx4a65c_elementData_915e3 (Γ : Gam) (this : Nat) (p0 : Int32) : Ct Γ mJx4a65c_elementData_915e3 0 vP [va_rf (some this), .int p0] (F_Jx4a65c_elementData_915e3 this p0) := by
  refine ct_in (lv := [(0, va_rf (some this)), (1, .int p0)]) (by decide) (by first | rfl | (simp only [lv_args, cat_rf]; rfl)) (by first | exact Nat.le_of_ble_eq_true rfl | (rw [lg_len]; simp only [List.map_cons, List.map_nil, cat_rf]; exact Nat.le_of_ble_eq_true rfl)) ?_
  unfold F_Jx4a65c_elementData_915e3
  refine ok_aload_n (dd TJx4a65c_elementData_915e3_0 0 rfl) 0 rfl ?_
  refine ok_gP fl_RJx4a65c_9 rfl (dd TJx4a65c_elementData_915e3_0 1 rfl) (fun v1 => ?_)
  refine ok_iload_n (dd TJx4a65c_elementData_915e3_0 2 rfl) 1 rfl ?_
  refine ok_lP4 (kd := 372) (by decide) rfl (dd TJx4a65c_elementData_915e3_0 3 rfl) (fun v2 => ?_)
  exact ok_areturn (dd TJx4a65c_elementData_915e3_0 4 rfl) rfl (by first | exact Or.inl ⟨_, rfl⟩ | exact Or.inr ⟨_, rfl⟩)
def F_Jx4a65c_get_915e3 (this : Nat) (p0 : Int32) : M (Option Nat) := bn (gI 13 2 (some this)) fun v1 => bn (F_J15_checkIndex_7cf53 p0 v1) fun v2 => bn (pRc 13 (some this)) fun b3 => bn (F_Jx4a65c_elementData_915e3 b3 p0) fun v4 => rt v4
set_option maxRecDepth 100000 in
theorem C_Jx4a65c_get_915e3 (Γ : Gam) (this : Nat) (p0 : Int32) : Ct Γ mJx4a65c_get_915e3 2 vP [va_rf (some this), .int p0] (F_Jx4a65c_get_915e3 this p0) := by
  refine ct_in (lv := [(0, va_rf (some this)), (1, .int p0)]) (by decide) (by first | rfl | (simp only [lv_args, cat_rf]; rfl)) (by first | exact Nat.le_of_ble_eq_true rfl | (rw [lg_len]; simp only [List.map_cons, List.map_nil, cat_rf]; exact Nat.le_of_ble_eq_true rfl)) ?_
  unfold F_Jx4a65c_get_915e3
  refine ok_iload_n (dd TJx4a65c_get_915e3_0 0 rfl) 1 rfl ?_
  refine ok_aload_n (dd TJx4a65c_get_915e3_0 1 rfl) 0 rfl ?_
  refine ok_gI fl_RJx4a65c_48 rfl (dd TJx4a65c_get_915e3_0 2 rfl) (fun v1 => ?_)
  refine ok_callSI [.int p0, .int v1] [] (C_J15_checkIndex_7cf53 Γ p0 v1) cy_J15_checkIndex_7cf53 ml_RJx4a65c_118 sm_J15_checkIndex_7cf53 (by decide) (Nat.le_of_ble_eq_true rfl) rfl (dd TJx4a65c_get_915e3_0 3 rfl) (fun v2 => ?_)
  refine ok_pop (dd TJx4a65c_get_915e3_0 4 rfl) (by first | rfl | exact cat_rf _) ?_
  refine ok_aload_n (dd TJx4a65c_get_915e3_0 5 rfl) 0 rfl ?_
  refine ok_iload_n (dd TJx4a65c_get_915e3_0 6 rfl) 1 rfl ?_
  refine ok_callVR (cn := 13) [.int p0] [] (fun b3 => C_Jx4a65c_elementData_915e3 Γ b3 p0) rfl cy_Jx4a65c_elementData_915e3 ml_RJx4a65c_123 im_Jx4a65c_elementData_915e3 se_Jx4a65c_elementData_915e3 (by decide) (Nat.le_of_ble_eq_true rfl) rfl (dd TJx4a65c_get_915e3_0 7 rfl) (fun v4 => ?_)
  exact ok_areturn (dd TJx4a65c_get_915e3_0 8 rfl) rfl (by first | exact Or.inl ⟨_, rfl⟩ | exact Or.inr ⟨_, rfl⟩)
def F_J8_newLength_cabcc_L21 (x0 : Int32) (x1 : Int32) : M Int32 := fl
set_option maxRecDepth 100000 in
theorem O_J8_newLength_cabcc_L21 (Γ : Gam) (x0 : Int32) (x1 : Int32) : Ok Γ mJ8_newLength_cabcc 1 (qo Γ vI) 21 [(0, .int x0), (1, .int x1)] [] (F_J8_newLength_cabcc_L21 x0 x1) := by
  unfold F_J8_newLength_cabcc_L21
  exact ok_fl
def F_J8_newLength_cabcc (p0 : Int32) (p1 : Int32) (p2 : Int32) : M Int32 := if (p0 + (if p1 < p2 then p2 else p1)) ≤ (0 : Int32) then F_J8_newLength_cabcc_L21 p0 p1 else if (2147483639 : Int32) < (p0 + (if p1 < p2 then p2 else p1)) then F_J8_newLength_cabcc_L21 p0 p1 else rt (p0 + (if p1 < p2 then p2 else p1))
set_option maxRecDepth 100000 in
theorem C_J8_newLength_cabcc (Γ : Gam) (p0 : Int32) (p1 : Int32) (p2 : Int32) : Ct Γ mJ8_newLength_cabcc 1 vI [.int p0, .int p1, .int p2] (F_J8_newLength_cabcc p0 p1 p2) := by
  refine ct_in (lv := [(0, .int p0), (1, .int p1), (2, .int p2)]) (by decide) (by first | rfl | (simp only [lv_args, cat_rf]; rfl)) (by first | exact Nat.le_of_ble_eq_true rfl | (rw [lg_len]; simp only [List.map_cons, List.map_nil, cat_rf]; exact Nat.le_of_ble_eq_true rfl)) ?_
  unfold F_J8_newLength_cabcc
  refine ok_iload_n (dd TJ8_newLength_cabcc_0 0 rfl) 0 rfl ?_
  refine ok_iload_n (dd TJ8_newLength_cabcc_0 1 rfl) 1 rfl ?_
  refine ok_iload_n (dd TJ8_newLength_cabcc_0 2 rfl) 2 rfl ?_
  refine ok_mmax ml_RJ8_194 ms_max w_mi mc_max (by decide) (Nat.le_of_ble_eq_true rfl) (dd TJ8_newLength_cabcc_0 3 rfl) ?_
  refine ok_iadd (dd TJ8_newLength_cabcc_0 4 rfl) ?_
  refine ok_istore_n (lv' := [(3, .int (p0 + (if p1 < p2 then p2 else p1))), (0, .int p0), (1, .int p1), (2, .int p2)]) (dd TJ8_newLength_cabcc_0 5 rfl) (by decide) (by first | rfl | (simp only [List.filter, cat_rf]; rfl)) ?_
  refine ok_iconst (v := (0 : Int32)) (dd TJ8_newLength_cabcc_0 6 rfl) (by decide) ?_
  refine ok_iload_n (dd TJ8_newLength_cabcc_0 7 rfl) 0 rfl ?_
  refine ok_icmp_ge (tgt := 21) (dd TJ8_newLength_cabcc_0 8 rfl) (by decide) ?_ ?_
  · refine ok_sub [1, 2] rfl ?_
    exact O_J8_newLength_cabcc_L21 Γ p0 p1
  · refine ok_iload_n (dd TJ8_newLength_cabcc_0 9 rfl) 0 rfl ?_
    refine ok_ldc (v := (2147483639 : Int32)) (dd TJ8_newLength_cabcc_0 10 rfl) ct_RJ8_200 ?_
    refine ok_icmp_gt (tgt := 21) (dd TJ8_newLength_cabcc_0 11 rfl) (by decide) ?_ ?_
    · refine ok_sub [1, 2] rfl ?_
      exact O_J8_newLength_cabcc_L21 Γ p0 p1
    · refine ok_iload_n (dd TJ8_newLength_cabcc_0 12 rfl) 0 rfl ?_
      exact ok_ireturn (dd TJ8_newLength_cabcc_0 13 rfl) rfl
def F_J7_copyOf_6403c_L24 (x0 : Option Nat) (x1 : Int32) (y0 : Option Nat) : M (Option Nat) := bn (len x0) fun v3 => bn (cpyP 372 372 x0 (0 : Int32) y0 (0 : Int32) (if x1 < v3 then x1 else v3)) fun _ => rt y0
set_option maxRecDepth 100000 in
theorem O_J7_copyOf_6403c_L24 (Γ : Gam) (x0 : Option Nat) (x1 : Int32) (y0 : Option Nat) : Ok Γ mJ7_copyOf_6403c 1 (qo Γ vP) 24 [(0, va_rf x0), (1, .int x1)] [va_rf y0] (F_J7_copyOf_6403c_L24 x0 x1 y0) := by
  unfold F_J7_copyOf_6403c_L24
  refine ok_astore_n (lv' := [(3, va_rf y0), (0, va_rf x0), (1, .int x1)]) (dd TJ7_copyOf_6403c_0 11 rfl) (by decide) (by first | rfl | (simp only [List.filter, cat_rf]; rfl)) ?_
  refine ok_aload_n (dd TJ7_copyOf_6403c_0 12 rfl) 1 rfl ?_
  refine ok_iconst (v := (0 : Int32)) (dd TJ7_copyOf_6403c_0 13 rfl) (by decide) ?_
  refine ok_aload_n (dd TJ7_copyOf_6403c_0 14 rfl) 0 rfl ?_
  refine ok_iconst (v := (0 : Int32)) (dd TJ7_copyOf_6403c_0 15 rfl) (by decide) ?_
  refine ok_aload_n (dd TJ7_copyOf_6403c_0 16 rfl) 1 rfl ?_
  refine ok_len (dd TJ7_copyOf_6403c_0 17 rfl) (fun v3 => ?_)
  refine ok_iload_n (dd TJ7_copyOf_6403c_0 18 rfl) 2 rfl ?_
  refine ok_mmin ml_RJ7_304 ms_min w_mi mc_min (by decide) (Nat.le_of_ble_eq_true rfl) (dd TJ7_copyOf_6403c_0 19 rfl) ?_
  refine ok_cpyP (kd0 := 372) (kd := 372) (by decide) (by decide) rfl rfl (by decide) ac1_RJ7_150 ac2 ac3 ac4 (by decide) (Nat.le_of_ble_eq_true rfl) (dd TJ7_copyOf_6403c_0 20 rfl) ?_
  refine ok_aload_n (dd TJ7_copyOf_6403c_0 21 rfl) 0 rfl ?_
  exact ok_areturn (dd TJ7_copyOf_6403c_0 22 rfl) rfl (by first | exact Or.inl ⟨_, rfl⟩ | exact Or.inr ⟨_, rfl⟩)
def F_J7_copyOf_6403c (p0 : Option Nat) (p1 : Int32) (p2 : Option Nat) : M (Option Nat) := bn (cK 40) fun r1 => if ¬ p2 = r1 then fl else bn (newA 372 p1) fun r2 => F_J7_copyOf_6403c_L24 p0 p1 r2
set_option maxRecDepth 100000 in
theorem C_J7_copyOf_6403c (Γ : Gam) (p0 : Option Nat) (p1 : Int32) (p2 : Option Nat) : Ct Γ mJ7_copyOf_6403c 1 vP [va_rf p0, .int p1, va_rf p2] (F_J7_copyOf_6403c p0 p1 p2) := by
  refine ct_in (lv := [(0, va_rf p0), (1, .int p1), (2, va_rf p2)]) (by decide) (by first | rfl | (simp only [lv_args, cat_rf]; rfl)) (by first | exact Nat.le_of_ble_eq_true rfl | (rw [lg_len]; simp only [List.map_cons, List.map_nil, cat_rf]; exact Nat.le_of_ble_eq_true rfl)) ?_
  unfold F_J7_copyOf_6403c
  refine ok_aload_n (dd TJ7_copyOf_6403c_0 0 rfl) 2 rfl ?_
  refine ok_ldcM cm_RJ7_110 (dd TJ7_copyOf_6403c_0 1 rfl) (fun r1 => ?_)
  refine ok_acmp_ne (tgt := 13) (dd TJ7_copyOf_6403c_0 2 rfl) (by decide) ?_ ?_
  · exact ok_fl
  · refine ok_iload_n (dd TJ7_copyOf_6403c_0 3 rfl) 1 rfl ?_
    refine ok_newA4 (kd := 372) (by decide) rfl cw_RJ7_2 ao_java_lang_Object (dd TJ7_copyOf_6403c_0 4 rfl) (fun r2 => ?_)
    refine ok_goto (tgt := 24) (dd TJ7_copyOf_6403c_0 5 rfl) (by decide) ?_
    refine ok_sub [0, 1] rfl ?_
    exact O_J7_copyOf_6403c_L24 Γ p0 p1 r2
def F_J7_copyOf_1904c (p0 : Option Nat) (p1 : Int32) : M (Option Nat) := bn (pArr 372 p0) fun _ => bn (cK 40) fun r1 => bn (F_J7_copyOf_6403c p0 p1 r1) fun v2 => rt v2
set_option maxRecDepth 100000 in
theorem C_J7_copyOf_1904c (Γ : Gam) (p0 : Option Nat) (p1 : Int32) : Ct Γ mJ7_copyOf_1904c 2 vP [va_rf p0, .int p1] (F_J7_copyOf_1904c p0 p1) := by
  refine ct_in (lv := [(0, va_rf p0), (1, .int p1)]) (by decide) (by first | rfl | (simp only [lv_args, cat_rf]; rfl)) (by first | exact Nat.le_of_ble_eq_true rfl | (rw [lg_len]; simp only [List.map_cons, List.map_nil, cat_rf]; exact Nat.le_of_ble_eq_true rfl)) ?_
  unfold F_J7_copyOf_1904c
  refine ok_aload_n (dd TJ7_copyOf_1904c_0 0 rfl) 0 rfl ?_
  refine ok_iload_n (dd TJ7_copyOf_1904c_0 1 rfl) 1 rfl ?_
  refine ok_aload_n (dd TJ7_copyOf_1904c_0 2 rfl) 0 rfl ?_
  refine ok_getC (kd := 372) (by decide) rfl gc1_RJ7_86 gc2 gc3 gc4 gc5 (by decide) (Nat.le_of_ble_eq_true rfl) (dd TJ7_copyOf_1904c_0 3 rfl) (fun r1 => ?_)
  refine ok_callSR [va_rf p0, .int p1, va_rf r1] [] (C_J7_copyOf_6403c Γ p0 p1 r1) cy_J7_copyOf_6403c ml_RJ7_300 sm_J7_copyOf_6403c (by decide) (Nat.le_of_ble_eq_true rfl) rfl (dd TJ7_copyOf_1904c_0 4 rfl) (fun v2 => ?_)
  exact ok_areturn (dd TJ7_copyOf_1904c_0 5 rfl) rfl (by first | exact Or.inl ⟨_, rfl⟩ | exact Or.inr ⟨_, rfl⟩)
def F_Jx4a65c_grow_92f84_L20 (this : Nat) (x1 : Int32) (x2 : Int32) : M (Option Nat) := bn (F_J8_newLength_cabcc x2 (x1 - x2) (x2 >>> ((1 : Int32) &&& 31))) fun v6 => bn (gP 13 1 (some this)) fun v7 => bn (F_J7_copyOf_1904c v7 v6) fun v8 => bn (wP 13 1 (some this) v8) fun _ => rt v8
set_option maxRecDepth 100000 in
theorem O_Jx4a65c_grow_92f84_L20 (Γ : Gam) (this : Nat) (x1 : Int32) (x2 : Int32) : Ok Γ mJx4a65c_grow_92f84 3 (qo Γ vP) 20 [(0, va_rf (some this)), (1, .int x1), (2, .int x2)] [] (F_Jx4a65c_grow_92f84_L20 this x1 x2) := by
  unfold F_Jx4a65c_grow_92f84_L20
  refine ok_iload_n (dd TJx4a65c_grow_92f84_0 10 rfl) 2 rfl ?_
  refine ok_iload_n (dd TJx4a65c_grow_92f84_0 11 rfl) 1 rfl ?_
  refine ok_iload_n (dd TJx4a65c_grow_92f84_0 12 rfl) 2 rfl ?_
  refine ok_isub (dd TJx4a65c_grow_92f84_0 13 rfl) ?_
  refine ok_iload_n (dd TJx4a65c_grow_92f84_0 14 rfl) 2 rfl ?_
  refine ok_iconst (v := (1 : Int32)) (dd TJx4a65c_grow_92f84_0 15 rfl) (by decide) ?_
  refine ok_ishr (dd TJx4a65c_grow_92f84_0 16 rfl) ?_
  refine ok_callSI [.int x2, .int (x1 - x2), .int (x2 >>> ((1 : Int32) &&& 31))] [] (C_J8_newLength_cabcc Γ x2 (x1 - x2) (x2 >>> ((1 : Int32) &&& 31))) cy_J8_newLength_cabcc ml_RJx4a65c_73 sm_J8_newLength_cabcc (by decide) (Nat.le_of_ble_eq_true rfl) rfl (dd TJx4a65c_grow_92f84_0 17 rfl) (fun v6 => ?_)
  refine ok_istore_n (lv' := [(3, .int v6), (0, va_rf (some this)), (1, .int x1), (2, .int x2)]) (dd TJx4a65c_grow_92f84_0 18 rfl) (by decide) (by first | rfl | (simp only [List.filter, cat_rf]; rfl)) ?_
  refine ok_aload_n (dd TJx4a65c_grow_92f84_0 19 rfl) 1 rfl ?_
  refine ok_aload_n (dd TJx4a65c_grow_92f84_0 20 rfl) 1 rfl ?_
  refine ok_gP fl_RJx4a65c_9 rfl (dd TJx4a65c_grow_92f84_0 21 rfl) (fun v7 => ?_)
  refine ok_iload_n (dd TJx4a65c_grow_92f84_0 22 rfl) 0 rfl ?_
  refine ok_callSR [va_rf v7, .int v6] [va_rf (some this)] (C_J7_copyOf_1904c Γ v7 v6) cy_J7_copyOf_1904c ml_RJx4a65c_66 sm_J7_copyOf_1904c (by decide) (Nat.le_of_ble_eq_true rfl) rfl (dd TJx4a65c_grow_92f84_0 23 rfl) (fun v8 => ?_)
  refine ok_dup_x1 (dd TJx4a65c_grow_92f84_0 24 rfl) (by first | rfl | exact cat_rf _) (by first | rfl | exact cat_rf _) ?_
  refine ok_wP fl_RJx4a65c_9 (Or.inl rfl) (tyJx4a65c_ok 1 (by decide)) rf_arr (by decide) rfl (dd TJx4a65c_grow_92f84_0 25 rfl) ?_
  exact ok_areturn (dd TJx4a65c_grow_92f84_0 26 rfl) rfl (by first | exact Or.inl ⟨_, rfl⟩ | exact Or.inr ⟨_, rfl⟩)
def F_Jx4a65c_grow_92f84 (this : Nat) (p0 : Int32) : M (Option Nat) := bn (gP 13 1 (some this)) fun v1 => bn (len v1) fun v2 => if 0 < v2 then F_Jx4a65c_grow_92f84_L20 this p0 v2 else bn (gP 13 1 (some this)) fun v3 => bn (cK 0) fun r4 => if v3 = r4 then bn (newA 372 (if (10 : Int32) < p0 then p0 else (10 : Int32))) fun r5 => bn (wP 13 1 (some this) r5) fun _ => rt r5 else F_Jx4a65c_grow_92f84_L20 this p0 v2
set_option maxRecDepth 100000 in
theorem C_Jx4a65c_grow_92f84 (Γ : Gam) (this : Nat) (p0 : Int32) : Ct Γ mJx4a65c_grow_92f84 3 vP [va_rf (some this), .int p0] (F_Jx4a65c_grow_92f84 this p0) := by
  refine ct_in (lv := [(0, va_rf (some this)), (1, .int p0)]) (by decide) (by first | rfl | (simp only [lv_args, cat_rf]; rfl)) (by first | exact Nat.le_of_ble_eq_true rfl | (rw [lg_len]; simp only [List.map_cons, List.map_nil, cat_rf]; exact Nat.le_of_ble_eq_true rfl)) ?_
  unfold F_Jx4a65c_grow_92f84
  refine ok_aload_n (dd TJx4a65c_grow_92f84_0 0 rfl) 0 rfl ?_
  refine ok_gP fl_RJx4a65c_9 rfl (dd TJx4a65c_grow_92f84_0 1 rfl) (fun v1 => ?_)
  refine ok_len (dd TJx4a65c_grow_92f84_0 2 rfl) (fun v2 => ?_)
  refine ok_istore_n (lv' := [(2, .int v2), (0, va_rf (some this)), (1, .int p0)]) (dd TJx4a65c_grow_92f84_0 3 rfl) (by decide) (by first | rfl | (simp only [List.filter, cat_rf]; rfl)) ?_
  refine ok_iload_n (dd TJx4a65c_grow_92f84_0 4 rfl) 0 rfl ?_
  refine ok_if_gt (tgt := 20) (dd TJx4a65c_grow_92f84_0 5 rfl) (by decide) ?_ ?_
  · refine ok_sub [1, 2, 0] rfl ?_
    exact O_Jx4a65c_grow_92f84_L20 Γ this p0 v2
  · refine ok_aload_n (dd TJx4a65c_grow_92f84_0 6 rfl) 1 rfl ?_
    refine ok_gP fl_RJx4a65c_9 rfl (dd TJx4a65c_grow_92f84_0 7 rfl) (fun v3 => ?_)
    refine ok_getS0 gs_RJx4a65c_39 (dd TJx4a65c_grow_92f84_0 8 rfl) (fun r4 => ?_)
    refine ok_acmp_eq (tgt := 45) (dd TJx4a65c_grow_92f84_0 9 rfl) (by decide) ?_ ?_
    · refine ok_aload_n (dd TJx4a65c_grow_92f84_0 27 rfl) 1 rfl ?_
      refine ok_bipush (v := (10 : Int32)) (dd TJx4a65c_grow_92f84_0 28 rfl) (by decide) ?_
      refine ok_iload_n (dd TJx4a65c_grow_92f84_0 29 rfl) 2 rfl ?_
      refine ok_mmax ml_RJx4a65c_79 ms_max w_mi mc_max (by decide) (Nat.le_of_ble_eq_true rfl) (dd TJx4a65c_grow_92f84_0 30 rfl) ?_
      refine ok_newA4 (kd := 372) (by decide) rfl cw_RJx4a65c_7 ao_java_lang_Object (dd TJx4a65c_grow_92f84_0 31 rfl) (fun r5 => ?_)
      refine ok_dup_x1 (dd TJx4a65c_grow_92f84_0 32 rfl) (by first | rfl | exact cat_rf _) (by first | rfl | exact cat_rf _) ?_
      refine ok_wP fl_RJx4a65c_9 (Or.inl rfl) (tyJx4a65c_ok 1 (by decide)) rf_arr (by decide) rfl (dd TJx4a65c_grow_92f84_0 33 rfl) ?_
      exact ok_areturn (dd TJx4a65c_grow_92f84_0 34 rfl) rfl (by first | exact Or.inl ⟨_, rfl⟩ | exact Or.inr ⟨_, rfl⟩)
    · refine ok_sub [1, 2, 0] rfl ?_
      exact O_Jx4a65c_grow_92f84_L20 Γ this p0 v2
def F_Jx4a65c_grow_d5877 (this : Nat) : M (Option Nat) := bn (gI 13 2 (some this)) fun v1 => bn (pRc 13 (some this)) fun b2 => bn (F_Jx4a65c_grow_92f84 b2 (v1 + (1 : Int32))) fun v3 => rt v3
set_option maxRecDepth 100000 in
theorem C_Jx4a65c_grow_d5877 (Γ : Gam) (this : Nat) : Ct Γ mJx4a65c_grow_d5877 4 vP [va_rf (some this)] (F_Jx4a65c_grow_d5877 this) := by
  refine ct_in (lv := [(0, va_rf (some this))]) (by decide) (by first | rfl | (simp only [lv_args, cat_rf]; rfl)) (by first | exact Nat.le_of_ble_eq_true rfl | (rw [lg_len]; simp only [List.map_cons, List.map_nil, cat_rf]; exact Nat.le_of_ble_eq_true rfl)) ?_
  unfold F_Jx4a65c_grow_d5877
  refine ok_aload_n (dd TJx4a65c_grow_d5877_0 0 rfl) 0 rfl ?_
  refine ok_aload_n (dd TJx4a65c_grow_d5877_0 1 rfl) 0 rfl ?_
  refine ok_gI fl_RJx4a65c_48 rfl (dd TJx4a65c_grow_d5877_0 2 rfl) (fun v1 => ?_)
  refine ok_iconst (v := (1 : Int32)) (dd TJx4a65c_grow_d5877_0 3 rfl) (by decide) ?_
  refine ok_iadd (dd TJx4a65c_grow_d5877_0 4 rfl) ?_
  refine ok_callVR (cn := 13) [.int (v1 + (1 : Int32))] [] (fun b2 => C_Jx4a65c_grow_92f84 Γ b2 (v1 + (1 : Int32))) rfl cy_Jx4a65c_grow_92f84 ml_RJx4a65c_69 im_Jx4a65c_grow_92f84 se_Jx4a65c_grow_92f84 (by decide) (Nat.le_of_ble_eq_true rfl) rfl (dd TJx4a65c_grow_d5877_0 5 rfl) (fun v3 => ?_)
  exact ok_areturn (dd TJx4a65c_grow_d5877_0 6 rfl) rfl (by first | exact Or.inl ⟨_, rfl⟩ | exact Or.inr ⟨_, rfl⟩)
def F_Jx4a65c_add_72be8_L11 (this : Nat) (x1 : Option Nat) (x2 : Option Nat) (x3 : Int32) : M Unit := bn (stO 372 x2 x3 x1) fun _ => bn (wI 13 2 (some this) (x3 + (1 : Int32))) fun _ => rt ()
set_option maxRecDepth 100000 in
theorem O_Jx4a65c_add_72be8_L11 (Γ : Gam) (this : Nat) (x1 : Option Nat) (x2 : Option Nat) (x3 : Int32) : Ok Γ mJx4a65c_add_72be8 5 (qo Γ vV) 11 [(0, va_rf (some this)), (1, va_rf x1), (2, va_rf x2), (3, .int x3)] [] (F_Jx4a65c_add_72be8_L11 this x1 x2 x3) := by
  unfold F_Jx4a65c_add_72be8_L11
  refine ok_aload_n (dd TJx4a65c_add_72be8_0 7 rfl) 2 rfl ?_
  refine ok_iload_n (dd TJx4a65c_add_72be8_0 8 rfl) 3 rfl ?_
  refine ok_aload_n (dd TJx4a65c_add_72be8_0 9 rfl) 1 rfl ?_
  refine ok_stO (kd := 372) (by decide) rfl (by decide) (dd TJx4a65c_add_72be8_0 10 rfl) ?_
  refine ok_aload_n (dd TJx4a65c_add_72be8_0 11 rfl) 0 rfl ?_
  refine ok_iload_n (dd TJx4a65c_add_72be8_0 12 rfl) 3 rfl ?_
  refine ok_iconst (v := (1 : Int32)) (dd TJx4a65c_add_72be8_0 13 rfl) (by decide) ?_
  refine ok_iadd (dd TJx4a65c_add_72be8_0 14 rfl) ?_
  refine ok_wI fl_RJx4a65c_48 (Or.inl rfl) (tyJx4a65c_ok 2 (by decide)) (by decide) rfl (dd TJx4a65c_add_72be8_0 15 rfl) ?_
  exact ok_return (dd TJx4a65c_add_72be8_0 16 rfl) rfl
def F_Jx4a65c_add_72be8 (this : Nat) (p0 : Option Nat) (p1 : Option Nat) (p2 : Int32) : M Unit := bn (len p1) fun v1 => if ¬ p2 = v1 then F_Jx4a65c_add_72be8_L11 this p0 p1 p2 else bn (pRc 13 (some this)) fun b2 => bn (F_Jx4a65c_grow_d5877 b2) fun v3 => F_Jx4a65c_add_72be8_L11 this p0 v3 p2
set_option maxRecDepth 100000 in
theorem C_Jx4a65c_add_72be8 (Γ : Gam) (this : Nat) (p0 : Option Nat) (p1 : Option Nat) (p2 : Int32) : Ct Γ mJx4a65c_add_72be8 5 vV [va_rf (some this), va_rf p0, va_rf p1, .int p2] (F_Jx4a65c_add_72be8 this p0 p1 p2) := by
  refine ct_in (lv := [(0, va_rf (some this)), (1, va_rf p0), (2, va_rf p1), (3, .int p2)]) (by decide) (by first | rfl | (simp only [lv_args, cat_rf]; rfl)) (by first | exact Nat.le_of_ble_eq_true rfl | (rw [lg_len]; simp only [List.map_cons, List.map_nil, cat_rf]; exact Nat.le_of_ble_eq_true rfl)) ?_
  unfold F_Jx4a65c_add_72be8
  refine ok_iload_n (dd TJx4a65c_add_72be8_0 0 rfl) 3 rfl ?_
  refine ok_aload_n (dd TJx4a65c_add_72be8_0 1 rfl) 2 rfl ?_
  refine ok_len (dd TJx4a65c_add_72be8_0 2 rfl) (fun v1 => ?_)
  refine ok_icmp_ne (tgt := 11) (dd TJx4a65c_add_72be8_0 3 rfl) (by decide) ?_ ?_
  · exact O_Jx4a65c_add_72be8_L11 Γ this p0 p1 p2
  · refine ok_aload_n (dd TJx4a65c_add_72be8_0 4 rfl) 0 rfl ?_
    refine ok_callVR (cn := 13) [] [] (fun b2 => C_Jx4a65c_grow_d5877 Γ b2) rfl cy_Jx4a65c_grow_d5877 ml_RJx4a65c_129 im_Jx4a65c_grow_d5877 se_Jx4a65c_grow_d5877 (by decide) (Nat.le_of_ble_eq_true rfl) rfl (dd TJx4a65c_add_72be8_0 5 rfl) (fun v3 => ?_)
    refine ok_astore_n (lv' := [(2, va_rf v3), (0, va_rf (some this)), (1, va_rf p0), (3, .int p2)]) (dd TJx4a65c_add_72be8_0 6 rfl) (by decide) (by first | rfl | (simp only [List.filter, cat_rf]; rfl)) ?_
    refine ok_sub [1, 2, 0, 3] rfl ?_
    exact O_Jx4a65c_add_72be8_L11 Γ this p0 v3 p2
def F_Jx4a65c_add_9ea2d (this : Nat) (p0 : Option Nat) : M Int32 := bn (gI 13 0 (some this)) fun v1 => bn (wI 13 0 (some this) (v1 + (1 : Int32))) fun _ => bn (gP 13 1 (some this)) fun v2 => bn (gI 13 2 (some this)) fun v3 => bn (pRc 13 (some this)) fun b4 => bn (F_Jx4a65c_add_72be8 b4 p0 v2 v3) fun _ => rz (1 : Int32)
set_option maxRecDepth 100000 in
theorem C_Jx4a65c_add_9ea2d (Γ : Gam) (this : Nat) (p0 : Option Nat) : Ct Γ mJx4a65c_add_9ea2d 6 vI [va_rf (some this), va_rf p0] (F_Jx4a65c_add_9ea2d this p0) := by
  refine ct_in (lv := [(0, va_rf (some this)), (1, va_rf p0)]) (by decide) (by first | rfl | (simp only [lv_args, cat_rf]; rfl)) (by first | exact Nat.le_of_ble_eq_true rfl | (rw [lg_len]; simp only [List.map_cons, List.map_nil, cat_rf]; exact Nat.le_of_ble_eq_true rfl)) ?_
  unfold F_Jx4a65c_add_9ea2d
  refine ok_aload_n (dd TJx4a65c_add_9ea2d_0 0 rfl) 0 rfl ?_
  refine ok_dup (dd TJx4a65c_add_9ea2d_0 1 rfl) (by first | rfl | exact cat_rf _) ?_
  refine ok_gI fl_RJx4a65c_63 rfl (dd TJx4a65c_add_9ea2d_0 2 rfl) (fun v1 => ?_)
  refine ok_iconst (v := (1 : Int32)) (dd TJx4a65c_add_9ea2d_0 3 rfl) (by decide) ?_
  refine ok_iadd (dd TJx4a65c_add_9ea2d_0 4 rfl) ?_
  refine ok_wI fl_RJx4a65c_63 (Or.inl rfl) (tyJx4a65c_ok 0 (by decide)) (by decide) rfl (dd TJx4a65c_add_9ea2d_0 5 rfl) ?_
  refine ok_aload_n (dd TJx4a65c_add_9ea2d_0 6 rfl) 0 rfl ?_
  refine ok_aload_n (dd TJx4a65c_add_9ea2d_0 7 rfl) 1 rfl ?_
  refine ok_aload_n (dd TJx4a65c_add_9ea2d_0 8 rfl) 0 rfl ?_
  refine ok_gP fl_RJx4a65c_9 rfl (dd TJx4a65c_add_9ea2d_0 9 rfl) (fun v2 => ?_)
  refine ok_aload_n (dd TJx4a65c_add_9ea2d_0 10 rfl) 0 rfl ?_
  refine ok_gI fl_RJx4a65c_48 rfl (dd TJx4a65c_add_9ea2d_0 11 rfl) (fun v3 => ?_)
  refine ok_callVV (cn := 13) [va_rf p0, va_rf v2, .int v3] [] (fun b4 => C_Jx4a65c_add_72be8 Γ b4 p0 v2 v3) rfl cy_Jx4a65c_add_72be8 ml_RJx4a65c_131 im_Jx4a65c_add_72be8 se_Jx4a65c_add_72be8 (by decide) (Nat.le_of_ble_eq_true rfl) rfl (dd TJx4a65c_add_9ea2d_0 12 rfl) ?_
  refine ok_iconst (v := (1 : Int32)) (dd TJx4a65c_add_9ea2d_0 13 rfl) (by decide) ?_
  exact ok_zreturn (dd TJx4a65c_add_9ea2d_0 14 rfl) rfl
def F_Jx4a65c_rangeCheckForAdd_d00df_L12 (this : Nat) (x1 : Int32) : M Unit := fl
set_option maxRecDepth 100000 in
theorem O_Jx4a65c_rangeCheckForAdd_d00df_L12 (Γ : Gam) (this : Nat) (x1 : Int32) : Ok Γ mJx4a65c_rangeCheckForAdd_d00df 0 (qo Γ vV) 12 [(0, va_rf (some this)), (1, .int x1)] [] (F_Jx4a65c_rangeCheckForAdd_d00df_L12 this x1) := by
  unfold F_Jx4a65c_rangeCheckForAdd_d00df_L12
  exact ok_fl
def F_Jx4a65c_rangeCheckForAdd_d00df (this : Nat) (p0 : Int32) : M Unit := bn (gI 13 2 (some this)) fun v1 => if v1 < p0 then F_Jx4a65c_rangeCheckForAdd_d00df_L12 this p0 else if 0 ≤ p0 then rt () else F_Jx4a65c_rangeCheckForAdd_d00df_L12 this p0
set_option maxRecDepth 100000 in
theorem C_Jx4a65c_rangeCheckForAdd_d00df (Γ : Gam) (this : Nat) (p0 : Int32) : Ct Γ mJx4a65c_rangeCheckForAdd_d00df 0 vV [va_rf (some this), .int p0] (F_Jx4a65c_rangeCheckForAdd_d00df this p0) := by
  refine ct_in (lv := [(0, va_rf (some this)), (1, .int p0)]) (by decide) (by first | rfl | (simp only [lv_args, cat_rf]; rfl)) (by first | exact Nat.le_of_ble_eq_true rfl | (rw [lg_len]; simp only [List.map_cons, List.map_nil, cat_rf]; exact Nat.le_of_ble_eq_true rfl)) ?_
  unfold F_Jx4a65c_rangeCheckForAdd_d00df
  refine ok_iload_n (dd TJx4a65c_rangeCheckForAdd_d00df_0 0 rfl) 1 rfl ?_
  refine ok_aload_n (dd TJx4a65c_rangeCheckForAdd_d00df_0 1 rfl) 0 rfl ?_
  refine ok_gI fl_RJx4a65c_48 rfl (dd TJx4a65c_rangeCheckForAdd_d00df_0 2 rfl) (fun v1 => ?_)
  refine ok_icmp_gt (tgt := 12) (dd TJx4a65c_rangeCheckForAdd_d00df_0 3 rfl) (by decide) ?_ ?_
  · exact O_Jx4a65c_rangeCheckForAdd_d00df_L12 Γ this p0
  · refine ok_iload_n (dd TJx4a65c_rangeCheckForAdd_d00df_0 4 rfl) 1 rfl ?_
    refine ok_if_ge (tgt := 25) (dd TJx4a65c_rangeCheckForAdd_d00df_0 5 rfl) (by decide) ?_ ?_
    · exact ok_return (dd TJx4a65c_rangeCheckForAdd_d00df_0 13 rfl) rfl
    · exact O_Jx4a65c_rangeCheckForAdd_d00df_L12 Γ this p0
def F_Jx4a65c_add_7a177_L38 (this : Nat) (x1 : Int32) (x2 : Option Nat) (x3 : Int32) (x4 : Option Nat) : M Unit := bn (cpyP 372 372 x4 x1 x4 (x1 + (1 : Int32)) (x3 - x1)) fun _ => bn (stO 372 x4 x1 x2) fun _ => bn (wI 13 2 (some this) (x3 + (1 : Int32))) fun _ => rt ()
set_option maxRecDepth 100000 in
theorem O_Jx4a65c_add_7a177_L38 (Γ : Gam) (this : Nat) (x1 : Int32) (x2 : Option Nat) (x3 : Int32) (x4 : Option Nat) : Ok Γ mJx4a65c_add_7a177 5 (qo Γ vV) 38 [(0, va_rf (some this)), (1, .int x1), (2, va_rf x2), (3, .int x3), (4, va_rf x4)] [] (F_Jx4a65c_add_7a177_L38 this x1 x2 x3 x4) := by
  unfold F_Jx4a65c_add_7a177_L38
  refine ok_aload (dd TJx4a65c_add_7a177_0 22 rfl) 4 rfl ?_
  refine ok_iload_n (dd TJx4a65c_add_7a177_0 23 rfl) 1 rfl ?_
  refine ok_aload (dd TJx4a65c_add_7a177_0 24 rfl) 4 rfl ?_
  refine ok_iload_n (dd TJx4a65c_add_7a177_0 25 rfl) 1 rfl ?_
  refine ok_iconst (v := (1 : Int32)) (dd TJx4a65c_add_7a177_0 26 rfl) (by decide) ?_
  refine ok_iadd (dd TJx4a65c_add_7a177_0 27 rfl) ?_
  refine ok_iload_n (dd TJx4a65c_add_7a177_0 28 rfl) 3 rfl ?_
  refine ok_iload_n (dd TJx4a65c_add_7a177_0 29 rfl) 1 rfl ?_
  refine ok_isub (dd TJx4a65c_add_7a177_0 30 rfl) ?_
  refine ok_cpyP (kd0 := 372) (kd := 372) (by decide) (by decide) rfl rfl (by decide) ac1_RJx4a65c_112 ac2 ac3 ac4 (by decide) (Nat.le_of_ble_eq_true rfl) (dd TJx4a65c_add_7a177_0 31 rfl) ?_
  refine ok_aload (dd TJx4a65c_add_7a177_0 32 rfl) 4 rfl ?_
  refine ok_iload_n (dd TJx4a65c_add_7a177_0 33 rfl) 1 rfl ?_
  refine ok_aload_n (dd TJx4a65c_add_7a177_0 34 rfl) 2 rfl ?_
  refine ok_stO (kd := 372) (by decide) rfl (by decide) (dd TJx4a65c_add_7a177_0 35 rfl) ?_
  refine ok_aload_n (dd TJx4a65c_add_7a177_0 36 rfl) 0 rfl ?_
  refine ok_iload_n (dd TJx4a65c_add_7a177_0 37 rfl) 3 rfl ?_
  refine ok_iconst (v := (1 : Int32)) (dd TJx4a65c_add_7a177_0 38 rfl) (by decide) ?_
  refine ok_iadd (dd TJx4a65c_add_7a177_0 39 rfl) ?_
  refine ok_wI fl_RJx4a65c_48 (Or.inl rfl) (tyJx4a65c_ok 2 (by decide)) (by decide) rfl (dd TJx4a65c_add_7a177_1 0 rfl) ?_
  exact ok_return (dd TJx4a65c_add_7a177_1 1 rfl) rfl
def F_Jx4a65c_add_7a177 (this : Nat) (p0 : Int32) (p1 : Option Nat) : M Unit := bn (pRc 13 (some this)) fun b1 => bn (F_Jx4a65c_rangeCheckForAdd_d00df b1 p0) fun _ => bn (gI 13 0 (some this)) fun v2 => bn (wI 13 0 (some this) (v2 + (1 : Int32))) fun _ => bn (gI 13 2 (some this)) fun v3 => bn (gP 13 1 (some this)) fun v4 => bn (len v4) fun v5 => if ¬ v3 = v5 then F_Jx4a65c_add_7a177_L38 this p0 p1 v3 v4 else bn (pRc 13 (some this)) fun b6 => bn (F_Jx4a65c_grow_d5877 b6) fun v7 => F_Jx4a65c_add_7a177_L38 this p0 p1 v3 v7
set_option maxRecDepth 100000 in
theorem C_Jx4a65c_add_7a177 (Γ : Gam) (this : Nat) (p0 : Int32) (p1 : Option Nat) : Ct Γ mJx4a65c_add_7a177 5 vV [va_rf (some this), .int p0, va_rf p1] (F_Jx4a65c_add_7a177 this p0 p1) := by
  refine ct_in (lv := [(0, va_rf (some this)), (1, .int p0), (2, va_rf p1)]) (by decide) (by first | rfl | (simp only [lv_args, cat_rf]; rfl)) (by first | exact Nat.le_of_ble_eq_true rfl | (rw [lg_len]; simp only [List.map_cons, List.map_nil, cat_rf]; exact Nat.le_of_ble_eq_true rfl)) ?_
  unfold F_Jx4a65c_add_7a177
  refine ok_aload_n (dd TJx4a65c_add_7a177_0 0 rfl) 0 rfl ?_
  refine ok_iload_n (dd TJx4a65c_add_7a177_0 1 rfl) 1 rfl ?_
  refine ok_callVV (cn := 13) [.int p0] [] (fun b1 => C_Jx4a65c_rangeCheckForAdd_d00df Γ b1 p0) rfl cy_Jx4a65c_rangeCheckForAdd_d00df ml_RJx4a65c_135 im_Jx4a65c_rangeCheckForAdd_d00df se_Jx4a65c_rangeCheckForAdd_d00df (by decide) (Nat.le_of_ble_eq_true rfl) rfl (dd TJx4a65c_add_7a177_0 2 rfl) ?_
  refine ok_aload_n (dd TJx4a65c_add_7a177_0 3 rfl) 0 rfl ?_
  refine ok_dup (dd TJx4a65c_add_7a177_0 4 rfl) (by first | rfl | exact cat_rf _) ?_
  refine ok_gI fl_RJx4a65c_63 rfl (dd TJx4a65c_add_7a177_0 5 rfl) (fun v2 => ?_)
  refine ok_iconst (v := (1 : Int32)) (dd TJx4a65c_add_7a177_0 6 rfl) (by decide) ?_
  refine ok_iadd (dd TJx4a65c_add_7a177_0 7 rfl) ?_
  refine ok_wI fl_RJx4a65c_63 (Or.inl rfl) (tyJx4a65c_ok 0 (by decide)) (by decide) rfl (dd TJx4a65c_add_7a177_0 8 rfl) ?_
  refine ok_aload_n (dd TJx4a65c_add_7a177_0 9 rfl) 0 rfl ?_
  refine ok_gI fl_RJx4a65c_48 rfl (dd TJx4a65c_add_7a177_0 10 rfl) (fun v3 => ?_)
  refine ok_dup (dd TJx4a65c_add_7a177_0 11 rfl) (by first | rfl | exact cat_rf _) ?_
  refine ok_istore_n (lv' := [(3, .int v3), (0, va_rf (some this)), (1, .int p0), (2, va_rf p1)]) (dd TJx4a65c_add_7a177_0 12 rfl) (by decide) (by first | rfl | (simp only [List.filter, cat_rf]; rfl)) ?_
  refine ok_aload_n (dd TJx4a65c_add_7a177_0 13 rfl) 1 rfl ?_
  refine ok_gP fl_RJx4a65c_9 rfl (dd TJx4a65c_add_7a177_0 14 rfl) (fun v4 => ?_)
  refine ok_dup (dd TJx4a65c_add_7a177_0 15 rfl) (by first | rfl | exact cat_rf _) ?_
  refine ok_astore (lv' := [(4, va_rf v4), (3, .int v3), (0, va_rf (some this)), (1, .int p0), (2, va_rf p1)]) (dd TJx4a65c_add_7a177_0 16 rfl) (by decide) (by first | rfl | (simp only [List.filter, cat_rf]; rfl)) ?_
  refine ok_len (dd TJx4a65c_add_7a177_0 17 rfl) (fun v5 => ?_)
  refine ok_icmp_ne (tgt := 38) (dd TJx4a65c_add_7a177_0 18 rfl) (by decide) ?_ ?_
  · refine ok_sub [2, 3, 4, 1, 0] rfl ?_
    exact O_Jx4a65c_add_7a177_L38 Γ this p0 p1 v3 v4
  · refine ok_aload_n (dd TJx4a65c_add_7a177_0 19 rfl) 2 rfl ?_
    refine ok_callVR (cn := 13) [] [] (fun b6 => C_Jx4a65c_grow_d5877 Γ b6) rfl cy_Jx4a65c_grow_d5877 ml_RJx4a65c_129 im_Jx4a65c_grow_d5877 se_Jx4a65c_grow_d5877 (by decide) (Nat.le_of_ble_eq_true rfl) rfl (dd TJx4a65c_add_7a177_0 20 rfl) (fun v7 => ?_)
    refine ok_astore (lv' := [(4, va_rf v7), (3, .int v3), (0, va_rf (some this)), (1, .int p0), (2, va_rf p1)]) (dd TJx4a65c_add_7a177_0 21 rfl) (by decide) (by first | rfl | (simp only [List.filter, cat_rf]; rfl)) ?_
    refine ok_sub [2, 3, 4, 1, 0] rfl ?_
    exact O_Jx4a65c_add_7a177_L38 Γ this p0 p1 v3 v7
def F_Jx4a65c_fastRemove_b59b0_L34 (this : Nat) (x1 : Option Nat) (x3 : Int32) : M Unit := bn (wI 13 2 (some this) x3) fun _ => bn (stO 372 x1 x3 none) fun _ => rt ()
set_option maxRecDepth 100000 in
theorem O_Jx4a65c_fastRemove_b59b0_L34 (Γ : Gam) (this : Nat) (x1 : Option Nat) (x3 : Int32) : Ok Γ mJx4a65c_fastRemove_b59b0 1 (qo Γ vV) 34 [(0, va_rf (some this)), (1, va_rf x1), (3, .int x3)] [] (F_Jx4a65c_fastRemove_b59b0_L34 this x1 x3) := by
  unfold F_Jx4a65c_fastRemove_b59b0_L34
  refine ok_aload_n (dd TJx4a65c_fastRemove_b59b0_0 24 rfl) 1 rfl ?_
  refine ok_aload_n (dd TJx4a65c_fastRemove_b59b0_0 25 rfl) 0 rfl ?_
  refine ok_iload_n (dd TJx4a65c_fastRemove_b59b0_0 26 rfl) 2 rfl ?_
  refine ok_dup_x1 (dd TJx4a65c_fastRemove_b59b0_0 27 rfl) (by first | rfl | exact cat_rf _) (by first | rfl | exact cat_rf _) ?_
  refine ok_wI fl_RJx4a65c_48 (Or.inl rfl) (tyJx4a65c_ok 2 (by decide)) (by decide) rfl (dd TJx4a65c_fastRemove_b59b0_0 28 rfl) ?_
  refine ok_null (dd TJx4a65c_fastRemove_b59b0_0 29 rfl) ?_
  refine ok_stO (kd := 372) (by decide) rfl (by decide) (dd TJx4a65c_fastRemove_b59b0_0 30 rfl) ?_
  exact ok_return (dd TJx4a65c_fastRemove_b59b0_0 31 rfl) rfl
def F_Jx4a65c_fastRemove_b59b0 (this : Nat) (p0 : Option Nat) (p1 : Int32) : M Unit := bn (gI 13 0 (some this)) fun v1 => bn (wI 13 0 (some this) (v1 + (1 : Int32))) fun _ => bn (gI 13 2 (some this)) fun v2 => if (v2 - (1 : Int32)) ≤ p1 then F_Jx4a65c_fastRemove_b59b0_L34 this p0 (v2 - (1 : Int32)) else bn (cpyP 372 372 p0 (p1 + (1 : Int32)) p0 p1 ((v2 - (1 : Int32)) - p1)) fun _ => F_Jx4a65c_fastRemove_b59b0_L34 this p0 (v2 - (1 : Int32))
set_option maxRecDepth 100000 in
theorem C_Jx4a65c_fastRemove_b59b0 (Γ : Gam) (this : Nat) (p0 : Option Nat) (p1 : Int32) : Ct Γ mJx4a65c_fastRemove_b59b0 1 vV [va_rf (some this), va_rf p0, .int p1] (F_Jx4a65c_fastRemove_b59b0 this p0 p1) := by
  refine ct_in (lv := [(0, va_rf (some this)), (1, va_rf p0), (2, .int p1)]) (by decide) (by first | rfl | (simp only [lv_args, cat_rf]; rfl)) (by first | exact Nat.le_of_ble_eq_true rfl | (rw [lg_len]; simp only [List.map_cons, List.map_nil, cat_rf]; exact Nat.le_of_ble_eq_true rfl)) ?_
  unfold F_Jx4a65c_fastRemove_b59b0
  refine ok_aload_n (dd TJx4a65c_fastRemove_b59b0_0 0 rfl) 0 rfl ?_
  refine ok_dup (dd TJx4a65c_fastRemove_b59b0_0 1 rfl) (by first | rfl | exact cat_rf _) ?_
  refine ok_gI fl_RJx4a65c_63 rfl (dd TJx4a65c_fastRemove_b59b0_0 2 rfl) (fun v1 => ?_)
  refine ok_iconst (v := (1 : Int32)) (dd TJx4a65c_fastRemove_b59b0_0 3 rfl) (by decide) ?_
  refine ok_iadd (dd TJx4a65c_fastRemove_b59b0_0 4 rfl) ?_
  refine ok_wI fl_RJx4a65c_63 (Or.inl rfl) (tyJx4a65c_ok 0 (by decide)) (by decide) rfl (dd TJx4a65c_fastRemove_b59b0_0 5 rfl) ?_
  refine ok_aload_n (dd TJx4a65c_fastRemove_b59b0_0 6 rfl) 0 rfl ?_
  refine ok_gI fl_RJx4a65c_48 rfl (dd TJx4a65c_fastRemove_b59b0_0 7 rfl) (fun v2 => ?_)
  refine ok_iconst (v := (1 : Int32)) (dd TJx4a65c_fastRemove_b59b0_0 8 rfl) (by decide) ?_
  refine ok_isub (dd TJx4a65c_fastRemove_b59b0_0 9 rfl) ?_
  refine ok_dup (dd TJx4a65c_fastRemove_b59b0_0 10 rfl) (by first | rfl | exact cat_rf _) ?_
  refine ok_istore_n (lv' := [(3, .int (v2 - (1 : Int32))), (0, va_rf (some this)), (1, va_rf p0), (2, .int p1)]) (dd TJx4a65c_fastRemove_b59b0_0 11 rfl) (by decide) (by first | rfl | (simp only [List.filter, cat_rf]; rfl)) ?_
  refine ok_iload_n (dd TJx4a65c_fastRemove_b59b0_0 12 rfl) 3 rfl ?_
  refine ok_icmp_le (tgt := 34) (dd TJx4a65c_fastRemove_b59b0_0 13 rfl) (by decide) ?_ ?_
  · refine ok_sub [1, 2, 0] rfl ?_
    exact O_Jx4a65c_fastRemove_b59b0_L34 Γ this p0 (v2 - (1 : Int32))
  · refine ok_aload_n (dd TJx4a65c_fastRemove_b59b0_0 14 rfl) 2 rfl ?_
    refine ok_iload_n (dd TJx4a65c_fastRemove_b59b0_0 15 rfl) 3 rfl ?_
    refine ok_iconst (v := (1 : Int32)) (dd TJx4a65c_fastRemove_b59b0_0 16 rfl) (by decide) ?_
    refine ok_iadd (dd TJx4a65c_fastRemove_b59b0_0 17 rfl) ?_
    refine ok_aload_n (dd TJx4a65c_fastRemove_b59b0_0 18 rfl) 2 rfl ?_
    refine ok_iload_n (dd TJx4a65c_fastRemove_b59b0_0 19 rfl) 3 rfl ?_
    refine ok_iload_n (dd TJx4a65c_fastRemove_b59b0_0 20 rfl) 0 rfl ?_
    refine ok_iload_n (dd TJx4a65c_fastRemove_b59b0_0 21 rfl) 3 rfl ?_
    refine ok_isub (dd TJx4a65c_fastRemove_b59b0_0 22 rfl) ?_
    refine ok_cpyP (kd0 := 372) (kd := 372) (by decide) (by decide) rfl rfl (by decide) ac1_RJx4a65c_112 ac2 ac3 ac4 (by decide) (Nat.le_of_ble_eq_true rfl) (dd TJx4a65c_fastRemove_b59b0_0 23 rfl) ?_
    refine ok_sub [1, 2, 0] rfl ?_
    exact O_Jx4a65c_fastRemove_b59b0_L34 Γ this p0 (v2 - (1 : Int32))
def F_Jx4a65c_remove_915e3 (this : Nat) (p0 : Int32) : M (Option Nat) := bn (gI 13 2 (some this)) fun v1 => bn (F_J15_checkIndex_7cf53 p0 v1) fun v2 => bn (gP 13 1 (some this)) fun v3 => bn (lP 372 v3 p0) fun v4 => bn (pRc 13 (some this)) fun b5 => bn (F_Jx4a65c_fastRemove_b59b0 b5 v3 p0) fun _ => rt v4
set_option maxRecDepth 100000 in
theorem C_Jx4a65c_remove_915e3 (Γ : Gam) (this : Nat) (p0 : Int32) : Ct Γ mJx4a65c_remove_915e3 2 vP [va_rf (some this), .int p0] (F_Jx4a65c_remove_915e3 this p0) := by
  refine ct_in (lv := [(0, va_rf (some this)), (1, .int p0)]) (by decide) (by first | rfl | (simp only [lv_args, cat_rf]; rfl)) (by first | exact Nat.le_of_ble_eq_true rfl | (rw [lg_len]; simp only [List.map_cons, List.map_nil, cat_rf]; exact Nat.le_of_ble_eq_true rfl)) ?_
  unfold F_Jx4a65c_remove_915e3
  refine ok_iload_n (dd TJx4a65c_remove_915e3_0 0 rfl) 1 rfl ?_
  refine ok_aload_n (dd TJx4a65c_remove_915e3_0 1 rfl) 0 rfl ?_
  refine ok_gI fl_RJx4a65c_48 rfl (dd TJx4a65c_remove_915e3_0 2 rfl) (fun v1 => ?_)
  refine ok_callSI [.int p0, .int v1] [] (C_J15_checkIndex_7cf53 Γ p0 v1) cy_J15_checkIndex_7cf53 ml_RJx4a65c_118 sm_J15_checkIndex_7cf53 (by decide) (Nat.le_of_ble_eq_true rfl) rfl (dd TJx4a65c_remove_915e3_0 3 rfl) (fun v2 => ?_)
  refine ok_pop (dd TJx4a65c_remove_915e3_0 4 rfl) (by first | rfl | exact cat_rf _) ?_
  refine ok_aload_n (dd TJx4a65c_remove_915e3_0 5 rfl) 0 rfl ?_
  refine ok_gP fl_RJx4a65c_9 rfl (dd TJx4a65c_remove_915e3_0 6 rfl) (fun v3 => ?_)
  refine ok_astore_n (lv' := [(2, va_rf v3), (0, va_rf (some this)), (1, .int p0)]) (dd TJx4a65c_remove_915e3_0 7 rfl) (by decide) (by first | rfl | (simp only [List.filter, cat_rf]; rfl)) ?_
  refine ok_aload_n (dd TJx4a65c_remove_915e3_0 8 rfl) 0 rfl ?_
  refine ok_iload_n (dd TJx4a65c_remove_915e3_0 9 rfl) 2 rfl ?_
  refine ok_lP4 (kd := 372) (by decide) rfl (dd TJx4a65c_remove_915e3_0 10 rfl) (fun v4 => ?_)
  refine ok_astore_n (lv' := [(3, va_rf v4), (2, va_rf v3), (0, va_rf (some this)), (1, .int p0)]) (dd TJx4a65c_remove_915e3_0 11 rfl) (by decide) (by first | rfl | (simp only [List.filter, cat_rf]; rfl)) ?_
  refine ok_aload_n (dd TJx4a65c_remove_915e3_0 12 rfl) 2 rfl ?_
  refine ok_aload_n (dd TJx4a65c_remove_915e3_0 13 rfl) 1 rfl ?_
  refine ok_iload_n (dd TJx4a65c_remove_915e3_0 14 rfl) 3 rfl ?_
  refine ok_callVV (cn := 13) [va_rf v3, .int p0] [] (fun b5 => C_Jx4a65c_fastRemove_b59b0 Γ b5 v3 p0) rfl cy_Jx4a65c_fastRemove_b59b0 ml_RJx4a65c_144 im_Jx4a65c_fastRemove_b59b0 se_Jx4a65c_fastRemove_b59b0 (by decide) (Nat.le_of_ble_eq_true rfl) rfl (dd TJx4a65c_remove_915e3_0 15 rfl) ?_
  refine ok_aload_n (dd TJx4a65c_remove_915e3_0 16 rfl) 0 rfl ?_
  exact ok_areturn (dd TJx4a65c_remove_915e3_0 17 rfl) rfl (by first | exact Or.inl ⟨_, rfl⟩ | exact Or.inr ⟨_, rfl⟩)
def F_Jx4a65c_clear_da8c8_L27 : Nat → Option Nat → Int32 → Int32 → M Unit
  | 0 => fun _ _ _ => fl
  | n + 1 => fun x1 x2 x3 => if x2 ≤ x3 then rt () else bn (stO 372 x1 x3 none) fun _ => F_Jx4a65c_clear_da8c8_L27 n x1 x2 (x3 + (1 : Int32))
set_option maxRecDepth 100000 in
theorem O_Jx4a65c_clear_da8c8_L27 (Γ : Gam) (n : Nat) : ∀ (x1 : Option Nat) (x2 : Int32) (x3 : Int32), Ok Γ mJx4a65c_clear_da8c8 0 (qo Γ vV) 27 [(1, va_rf x1), (2, .int x2), (3, .int x3)] [] (F_Jx4a65c_clear_da8c8_L27 n x1 x2 x3) := by
  induction n with
  | zero => intro x1 x2 x3; exact ok_fl
  | succ n ih =>
    intro x1 x2 x3
    rw [F_Jx4a65c_clear_da8c8_L27]
    refine ok_iload_n (dd TJx4a65c_clear_da8c8_0 17 rfl) 2 rfl ?_
    refine ok_iload_n (dd TJx4a65c_clear_da8c8_0 18 rfl) 1 rfl ?_
    refine ok_icmp_ge (tgt := 42) (dd TJx4a65c_clear_da8c8_0 19 rfl) (by decide) ?_ ?_
    · exact ok_return (dd TJx4a65c_clear_da8c8_0 26 rfl) rfl
    · refine ok_aload_n (dd TJx4a65c_clear_da8c8_0 20 rfl) 0 rfl ?_
      refine ok_iload_n (dd TJx4a65c_clear_da8c8_0 21 rfl) 2 rfl ?_
      refine ok_null (dd TJx4a65c_clear_da8c8_0 22 rfl) ?_
      refine ok_stO (kd := 372) (by decide) rfl (by decide) (dd TJx4a65c_clear_da8c8_0 23 rfl) ?_
      refine ok_iinc (lv' := [(3, .int (x3 + (1 : Int32))), (1, va_rf x1), (2, .int x2)]) (dd TJx4a65c_clear_da8c8_0 24 rfl) 2 rfl (congrArg (fun q : Int32 => x3 + q) (show Int32.ofInt (1) = (1 : Int32) from by decide)) (by decide) (by first | rfl | (simp only [List.filter, cat_rf]; rfl)) ?_
      refine ok_goto (tgt := 27) (dd TJx4a65c_clear_da8c8_0 25 rfl) (by decide) ?_
      refine ok_sub [1, 2, 0] rfl ?_
      exact ih x1 x2 (x3 + (1 : Int32))
def F_Jx4a65c_clear_da8c8 (this : Nat) : M Unit := bn (gI 13 0 (some this)) fun v1 => bn (wI 13 0 (some this) (v1 + (1 : Int32))) fun _ => bn (gP 13 1 (some this)) fun v2 => bn (gI 13 2 (some this)) fun v3 => bn (wI 13 2 (some this) (0 : Int32)) fun _ => F_Jx4a65c_clear_da8c8_L27 FU v2 v3 (0 : Int32)
set_option maxRecDepth 100000 in
theorem C_Jx4a65c_clear_da8c8 (Γ : Gam) (this : Nat) : Ct Γ mJx4a65c_clear_da8c8 0 vV [va_rf (some this)] (F_Jx4a65c_clear_da8c8 this) := by
  refine ct_in (lv := [(0, va_rf (some this))]) (by decide) (by first | rfl | (simp only [lv_args, cat_rf]; rfl)) (by first | exact Nat.le_of_ble_eq_true rfl | (rw [lg_len]; simp only [List.map_cons, List.map_nil, cat_rf]; exact Nat.le_of_ble_eq_true rfl)) ?_
  unfold F_Jx4a65c_clear_da8c8
  refine ok_aload_n (dd TJx4a65c_clear_da8c8_0 0 rfl) 0 rfl ?_
  refine ok_dup (dd TJx4a65c_clear_da8c8_0 1 rfl) (by first | rfl | exact cat_rf _) ?_
  refine ok_gI fl_RJx4a65c_63 rfl (dd TJx4a65c_clear_da8c8_0 2 rfl) (fun v1 => ?_)
  refine ok_iconst (v := (1 : Int32)) (dd TJx4a65c_clear_da8c8_0 3 rfl) (by decide) ?_
  refine ok_iadd (dd TJx4a65c_clear_da8c8_0 4 rfl) ?_
  refine ok_wI fl_RJx4a65c_63 (Or.inl rfl) (tyJx4a65c_ok 0 (by decide)) (by decide) rfl (dd TJx4a65c_clear_da8c8_0 5 rfl) ?_
  refine ok_aload_n (dd TJx4a65c_clear_da8c8_0 6 rfl) 0 rfl ?_
  refine ok_gP fl_RJx4a65c_9 rfl (dd TJx4a65c_clear_da8c8_0 7 rfl) (fun v2 => ?_)
  refine ok_astore_n (lv' := [(1, va_rf v2), (0, va_rf (some this))]) (dd TJx4a65c_clear_da8c8_0 8 rfl) (by decide) (by first | rfl | (simp only [List.filter, cat_rf]; rfl)) ?_
  refine ok_aload_n (dd TJx4a65c_clear_da8c8_0 9 rfl) 1 rfl ?_
  refine ok_gI fl_RJx4a65c_48 rfl (dd TJx4a65c_clear_da8c8_0 10 rfl) (fun v3 => ?_)
  refine ok_istore_n (lv' := [(2, .int v3), (1, va_rf v2), (0, va_rf (some this))]) (dd TJx4a65c_clear_da8c8_0 11 rfl) (by decide) (by first | rfl | (simp only [List.filter, cat_rf]; rfl)) ?_
  refine ok_aload_n (dd TJx4a65c_clear_da8c8_0 12 rfl) 2 rfl ?_
  refine ok_iconst (v := (0 : Int32)) (dd TJx4a65c_clear_da8c8_0 13 rfl) (by decide) ?_
  refine ok_dup_x1 (dd TJx4a65c_clear_da8c8_0 14 rfl) (by first | rfl | exact cat_rf _) (by first | rfl | exact cat_rf _) ?_
  refine ok_wI fl_RJx4a65c_48 (Or.inl rfl) (tyJx4a65c_ok 2 (by decide)) (by decide) rfl (dd TJx4a65c_clear_da8c8_0 15 rfl) ?_
  refine ok_istore_n (lv' := [(3, .int (0 : Int32)), (2, .int v3), (1, va_rf v2), (0, va_rf (some this))]) (dd TJx4a65c_clear_da8c8_0 16 rfl) (by decide) (by first | rfl | (simp only [List.filter, cat_rf]; rfl)) ?_
  refine ok_sub [2, 1, 0] rfl ?_
  exact O_Jx4a65c_clear_da8c8_L27 Γ FU v2 v3 (0 : Int32)
def F_J7_copyOf_59c91 (p0 : Option Nat) (p1 : Int32) : M (Option Nat) := bn (len p0) fun v1 => if ¬ p1 = v1 then bn (newA 128 p1) fun r2 => bn (len p0) fun v3 => bn (cpyI 120 128 p0 (0 : Int32) r2 (0 : Int32) (if p1 < v3 then p1 else v3)) fun _ => rt r2 else bn (clI 120 128 p0) fun r4 => bn (pArr 128 r4) fun _ => rt r4
set_option maxRecDepth 100000 in
theorem C_J7_copyOf_59c91 (Γ : Gam) (p0 : Option Nat) (p1 : Int32) : Ct Γ mJ7_copyOf_59c91 1 vP [va_rf p0, .int p1] (F_J7_copyOf_59c91 p0 p1) := by
  refine ct_in (lv := [(0, va_rf p0), (1, .int p1)]) (by decide) (by first | rfl | (simp only [lv_args, cat_rf]; rfl)) (by first | exact Nat.le_of_ble_eq_true rfl | (rw [lg_len]; simp only [List.map_cons, List.map_nil, cat_rf]; exact Nat.le_of_ble_eq_true rfl)) ?_
  unfold F_J7_copyOf_59c91
  refine ok_iload_n (dd TJ7_copyOf_59c91_0 0 rfl) 1 rfl ?_
  refine ok_aload_n (dd TJ7_copyOf_59c91_0 1 rfl) 0 rfl ?_
  refine ok_len (dd TJ7_copyOf_59c91_0 2 rfl) (fun v1 => ?_)
  refine ok_icmp_ne (tgt := 14) (dd TJ7_copyOf_59c91_0 3 rfl) (by decide) ?_ ?_
  · refine ok_iload_n (dd TJ7_copyOf_59c91_0 8 rfl) 1 rfl ?_
    refine ok_newAI (kd := 128) (by decide) rfl ac_int (dd TJ7_copyOf_59c91_0 9 rfl) (fun r2 => ?_)
    refine ok_astore_n (lv' := [(2, va_rf r2), (0, va_rf p0), (1, .int p1)]) (dd TJ7_copyOf_59c91_0 10 rfl) (by decide) (by first | rfl | (simp only [List.filter, cat_rf]; rfl)) ?_
    refine ok_aload_n (dd TJ7_copyOf_59c91_0 11 rfl) 1 rfl ?_
    refine ok_iconst (v := (0 : Int32)) (dd TJ7_copyOf_59c91_0 12 rfl) (by decide) ?_
    refine ok_aload_n (dd TJ7_copyOf_59c91_0 13 rfl) 0 rfl ?_
    refine ok_iconst (v := (0 : Int32)) (dd TJ7_copyOf_59c91_0 14 rfl) (by decide) ?_
    refine ok_aload_n (dd TJ7_copyOf_59c91_0 15 rfl) 1 rfl ?_
    refine ok_len (dd TJ7_copyOf_59c91_0 16 rfl) (fun v3 => ?_)
    refine ok_iload_n (dd TJ7_copyOf_59c91_0 17 rfl) 2 rfl ?_
    refine ok_mmin ml_RJ7_304 ms_min w_mi mc_min (by decide) (Nat.le_of_ble_eq_true rfl) (dd TJ7_copyOf_59c91_0 18 rfl) ?_
    refine ok_cpyI (kd0 := 120) (kd := 128) (by decide) (by decide) rfl rfl (by decide) ac1_RJ7_150 ac2 ac3 ac4 (by decide) (Nat.le_of_ble_eq_true rfl) (dd TJ7_copyOf_59c91_0 19 rfl) ?_
    refine ok_aload_n (dd TJ7_copyOf_59c91_0 20 rfl) 0 rfl ?_
    exact ok_areturn (dd TJ7_copyOf_59c91_0 21 rfl) rfl (by first | exact Or.inl ⟨_, rfl⟩ | exact Or.inr ⟨_, rfl⟩)
  · refine ok_aload_n (dd TJ7_copyOf_59c91_0 4 rfl) 0 rfl ?_
    refine ok_clI (kd0 := 120) (kd := 128) (by decide) (by decide) rfl rfl cn1_RJ7_316 cn2 cn3 cn4 cn5 cn6 (by decide) (Nat.le_of_ble_eq_true rfl) (dd TJ7_copyOf_59c91_0 5 rfl) (fun r4 => ?_)
    refine ok_cstA (kd := 128) (by decide) rfl cm_RJ7_317 (dd TJ7_copyOf_59c91_0 6 rfl) ?_
    exact ok_areturn (dd TJ7_copyOf_59c91_0 7 rfl) rfl (by first | exact Or.inl ⟨_, rfl⟩ | exact Or.inr ⟨_, rfl⟩)
def F_J0_coder_7d493 (this : Nat) : M Int32 := if (1 : Int32) = 0 then rb (1 : Int32) else bn (kC (some this)) fun v1 => rb v1
set_option maxRecDepth 100000 in
theorem C_J0_coder_7d493 (Γ : Gam) (this : Nat) : Ct Γ mJ0_coder_7d493 0 vI [va_rf (some this)] (F_J0_coder_7d493 this) := by
  refine ct_in (lv := [(0, va_rf (some this))]) (by decide) (by first | rfl | (simp only [lv_args, cat_rf]; rfl)) (by first | exact Nat.le_of_ble_eq_true rfl | (rw [lg_len]; simp only [List.map_cons, List.map_nil, cat_rf]; exact Nat.le_of_ble_eq_true rfl)) ?_
  unfold F_J0_coder_7d493
  refine ok_getSC gs_RJ0_38 (dd TJ0_coder_7d493_0 0 rfl) ?_
  refine ok_if_eq (tgt := 13) (dd TJ0_coder_7d493_0 1 rfl) (by decide) ?_ ?_
  · refine ok_iconst (v := (1 : Int32)) (dd TJ0_coder_7d493_0 5 rfl) (by decide) ?_
    exact ok_breturn (dd TJ0_coder_7d493_0 6 rfl) rfl
  · refine ok_aload_n (dd TJ0_coder_7d493_0 2 rfl) 0 rfl ?_
    refine ok_kC gs_RJ0_15 (dd TJ0_coder_7d493_0 3 rfl) (fun v1 => ?_)
    refine ok_goto (tgt := 14) (dd TJ0_coder_7d493_0 4 rfl) (by decide) ?_
    exact ok_breturn (dd TJ0_coder_7d493_0 6 rfl) rfl
def F_J0_isLatin1_aae02 (this : Nat) : M Int32 := if (1 : Int32) = 0 then rz (0 : Int32) else bn (kC (some this)) fun v1 => if ¬ v1 = 0 then rz (0 : Int32) else rz (1 : Int32)
set_option maxRecDepth 100000 in
theorem C_J0_isLatin1_aae02 (Γ : Gam) (this : Nat) : Ct Γ mJ0_isLatin1_aae02 0 vI [va_rf (some this)] (F_J0_isLatin1_aae02 this) := by
  refine ct_in (lv := [(0, va_rf (some this))]) (by decide) (by first | rfl | (simp only [lv_args, cat_rf]; rfl)) (by first | exact Nat.le_of_ble_eq_true rfl | (rw [lg_len]; simp only [List.map_cons, List.map_nil, cat_rf]; exact Nat.le_of_ble_eq_true rfl)) ?_
  unfold F_J0_isLatin1_aae02
  refine ok_getSC gs_RJ0_38 (dd TJ0_isLatin1_aae02_0 0 rfl) ?_
  refine ok_if_eq (tgt := 17) (dd TJ0_isLatin1_aae02_0 1 rfl) (by decide) ?_ ?_
  · refine ok_iconst (v := (0 : Int32)) (dd TJ0_isLatin1_aae02_0 7 rfl) (by decide) ?_
    exact ok_zreturn (dd TJ0_isLatin1_aae02_0 8 rfl) rfl
  · refine ok_aload_n (dd TJ0_isLatin1_aae02_0 2 rfl) 0 rfl ?_
    refine ok_kC gs_RJ0_15 (dd TJ0_isLatin1_aae02_0 3 rfl) (fun v1 => ?_)
    refine ok_if_ne (tgt := 17) (dd TJ0_isLatin1_aae02_0 4 rfl) (by decide) ?_ ?_
    · refine ok_iconst (v := (0 : Int32)) (dd TJ0_isLatin1_aae02_0 7 rfl) (by decide) ?_
      exact ok_zreturn (dd TJ0_isLatin1_aae02_0 8 rfl) rfl
    · refine ok_iconst (v := (1 : Int32)) (dd TJ0_isLatin1_aae02_0 5 rfl) (by decide) ?_
      refine ok_goto (tgt := 18) (dd TJ0_isLatin1_aae02_0 6 rfl) (by decide) ?_
      exact ok_zreturn (dd TJ0_isLatin1_aae02_0 8 rfl) rfl
def F_J0_length_8abf5 (this : Nat) : M Int32 := bn (kV (some this)) fun v1 => bn (kLen v1) fun v2 => bn (kRc (some this)) fun b3 => bn (F_J0_coder_7d493 b3) fun v4 => rt (v2 >>> (v4 &&& 31))
set_option maxRecDepth 100000 in
theorem C_J0_length_8abf5 (Γ : Gam) (this : Nat) : Ct Γ mJ0_length_8abf5 1 vI [va_rf (some this)] (F_J0_length_8abf5 this) := by
  refine ct_in (lv := [(0, va_rf (some this))]) (by decide) (by first | rfl | (simp only [lv_args, cat_rf]; rfl)) (by first | exact Nat.le_of_ble_eq_true rfl | (rw [lg_len]; simp only [List.map_cons, List.map_nil, cat_rf]; exact Nat.le_of_ble_eq_true rfl)) ?_
  unfold F_J0_length_8abf5
  refine ok_aload_n (dd TJ0_length_8abf5_0 0 rfl) 0 rfl ?_
  refine ok_kV gs_RJ0_9 (dd TJ0_length_8abf5_0 1 rfl) (fun v1 => ?_)
  refine ok_kLen (dd TJ0_length_8abf5_0 2 rfl) (fun v2 => ?_)
  refine ok_aload_n (dd TJ0_length_8abf5_0 3 rfl) 0 rfl ?_
  refine ok_callK [] [.int v2] (fun b3 => C_J0_coder_7d493 Γ b3) cy_J0_coder_7d493 ml_RJ0_335 im_J0_coder_7d493 se_J0_coder_7d493 (by decide) (Nat.le_of_ble_eq_true rfl) rfl (dd TJ0_length_8abf5_0 4 rfl) (fun v4 => ?_)
  refine ok_ishr (dd TJ0_length_8abf5_0 5 rfl) ?_
  exact ok_ireturn (dd TJ0_length_8abf5_0 6 rfl) rfl
def F_J0_checkIndex_df160 (p0 : Int32) (p1 : Int32) : M Unit := bn (cK 41) fun r1 => bn (F_J3_checkIndex_8e157 p0 p1 r1) fun v2 => rt ()
set_option maxRecDepth 100000 in
theorem C_J0_checkIndex_df160 (Γ : Gam) (p0 : Int32) (p1 : Int32) : Ct Γ mJ0_checkIndex_df160 1 vV [.int p0, .int p1] (F_J0_checkIndex_df160 p0 p1) := by
  refine ct_in (lv := [(0, .int p0), (1, .int p1)]) (by decide) (by first | rfl | (simp only [lv_args, cat_rf]; rfl)) (by first | exact Nat.le_of_ble_eq_true rfl | (rw [lg_len]; simp only [List.map_cons, List.map_nil, cat_rf]; exact Nat.le_of_ble_eq_true rfl)) ?_
  unfold F_J0_checkIndex_df160
  refine ok_iload_n (dd TJ0_checkIndex_df160_0 0 rfl) 0 rfl ?_
  refine ok_iload_n (dd TJ0_checkIndex_df160_0 1 rfl) 1 rfl ?_
  refine ok_getSF gs_RJ0_1053 (dd TJ0_checkIndex_df160_0 2 rfl) (fun r1 => ?_)
  refine ok_callSI [.int p0, .int p1, va_rf r1] [] (C_J3_checkIndex_8e157 Γ p0 p1 r1) cy_J3_checkIndex_8e157 ml_RJ0_1059 sm_J3_checkIndex_8e157 (by decide) (Nat.le_of_ble_eq_true rfl) rfl (dd TJ0_checkIndex_df160_0 3 rfl) (fun v2 => ?_)
  refine ok_pop (dd TJ0_checkIndex_df160_0 4 rfl) (by first | rfl | exact cat_rf _) ?_
  exact ok_return (dd TJ0_checkIndex_df160_0 5 rfl) rfl
def F_J1_charAt_3b067 (p0 : Option Nat) (p1 : Int32) : M Int32 := bn (kLen p0) fun v1 => bn (F_J0_checkIndex_df160 p1 v1) fun _ => bn (kBt p0 p1) fun v2 => rch (((v2 &&& (255 : Int32)).toUInt32 % 65536).toInt32)
set_option maxRecDepth 100000 in
theorem C_J1_charAt_3b067 (Γ : Gam) (p0 : Option Nat) (p1 : Int32) : Ct Γ mJ1_charAt_3b067 2 vI [va_rf p0, .int p1] (F_J1_charAt_3b067 p0 p1) := by
  refine ct_in (lv := [(0, va_rf p0), (1, .int p1)]) (by decide) (by first | rfl | (simp only [lv_args, cat_rf]; rfl)) (by first | exact Nat.le_of_ble_eq_true rfl | (rw [lg_len]; simp only [List.map_cons, List.map_nil, cat_rf]; exact Nat.le_of_ble_eq_true rfl)) ?_
  unfold F_J1_charAt_3b067
  refine ok_iload_n (dd TJ1_charAt_3b067_0 0 rfl) 1 rfl ?_
  refine ok_aload_n (dd TJ1_charAt_3b067_0 1 rfl) 0 rfl ?_
  refine ok_kLen (dd TJ1_charAt_3b067_0 2 rfl) (fun v1 => ?_)
  refine ok_callSV [.int p1, .int v1] [] (C_J0_checkIndex_df160 Γ p1 v1) cy_J0_checkIndex_df160 ml_RJ1_9 sm_J0_checkIndex_df160 (by decide) (Nat.le_of_ble_eq_true rfl) rfl (dd TJ1_charAt_3b067_0 3 rfl) ?_
  refine ok_aload_n (dd TJ1_charAt_3b067_0 4 rfl) 0 rfl ?_
  refine ok_iload_n (dd TJ1_charAt_3b067_0 5 rfl) 1 rfl ?_
  refine ok_kBt (dd TJ1_charAt_3b067_0 6 rfl) (fun v2 => ?_)
  refine ok_sipush (v := (255 : Int32)) (dd TJ1_charAt_3b067_0 7 rfl) (by decide) ?_
  refine ok_iand (dd TJ1_charAt_3b067_0 8 rfl) ?_
  refine ok_i2c (dd TJ1_charAt_3b067_0 9 rfl) ?_
  exact ok_creturn (dd TJ1_charAt_3b067_0 10 rfl) rfl
def F_J0_charAt_5068e (this : Nat) (p0 : Int32) : M Int32 := bn (kRc (some this)) fun b1 => bn (F_J0_isLatin1_aae02 b1) fun v2 => if v2 = 0 then fl else bn (kV (some this)) fun v3 => bn (F_J1_charAt_3b067 v3 p0) fun v4 => rch v4
set_option maxRecDepth 100000 in
theorem C_J0_charAt_5068e (Γ : Gam) (this : Nat) (p0 : Int32) : Ct Γ mJ0_charAt_5068e 3 vI [va_rf (some this), .int p0] (F_J0_charAt_5068e this p0) := by
  refine ct_in (lv := [(0, va_rf (some this)), (1, .int p0)]) (by decide) (by first | rfl | (simp only [lv_args, cat_rf]; rfl)) (by first | exact Nat.le_of_ble_eq_true rfl | (rw [lg_len]; simp only [List.map_cons, List.map_nil, cat_rf]; exact Nat.le_of_ble_eq_true rfl)) ?_
  unfold F_J0_charAt_5068e
  refine ok_aload_n (dd TJ0_charAt_5068e_0 0 rfl) 0 rfl ?_
  refine ok_callK [] [] (fun b1 => C_J0_isLatin1_aae02 Γ b1) cy_J0_isLatin1_aae02 ml_RJ0_492 im_J0_isLatin1_aae02 se_J0_isLatin1_aae02 (by decide) (Nat.le_of_ble_eq_true rfl) rfl (dd TJ0_charAt_5068e_0 1 rfl) (fun v2 => ?_)
  refine ok_if_eq (tgt := 16) (dd TJ0_charAt_5068e_0 2 rfl) (by decide) ?_ ?_
  · exact ok_fl
  · refine ok_aload_n (dd TJ0_charAt_5068e_0 3 rfl) 0 rfl ?_
    refine ok_kV gs_RJ0_9 (dd TJ0_charAt_5068e_0 4 rfl) (fun v3 => ?_)
    refine ok_iload_n (dd TJ0_charAt_5068e_0 5 rfl) 1 rfl ?_
    refine ok_callSI [va_rf v3, .int p0] [] (C_J1_charAt_3b067 Γ v3 p0) cy_J1_charAt_3b067 ml_RJ0_495 sm_J1_charAt_3b067 (by decide) (Nat.le_of_ble_eq_true rfl) rfl (dd TJ0_charAt_5068e_0 6 rfl) (fun v4 => ?_)
    exact ok_creturn (dd TJ0_charAt_5068e_0 7 rfl) rfl
def F_J1_canEncode_9a6ad (p0 : Int32) : M Int32 := if p0 < 0 then rz (0 : Int32) else if (255 : Int32) < p0 then rz (0 : Int32) else rz (1 : Int32)
set_option maxRecDepth 100000 in
theorem C_J1_canEncode_9a6ad (Γ : Gam) (p0 : Int32) : Ct Γ mJ1_canEncode_9a6ad 0 vI [.int p0] (F_J1_canEncode_9a6ad p0) := by
  refine ct_in (lv := [(0, .int p0)]) (by decide) (by first | rfl | (simp only [lv_args, cat_rf]; rfl)) (by first | exact Nat.le_of_ble_eq_true rfl | (rw [lg_len]; simp only [List.map_cons, List.map_nil, cat_rf]; exact Nat.le_of_ble_eq_true rfl)) ?_
  unfold F_J1_canEncode_9a6ad
  refine ok_iload_n (dd TJ1_canEncode_9a6ad_0 0 rfl) 0 rfl ?_
  refine ok_if_lt (tgt := 15) (dd TJ1_canEncode_9a6ad_0 1 rfl) (by decide) ?_ ?_
  · refine ok_iconst (v := (0 : Int32)) (dd TJ1_canEncode_9a6ad_0 7 rfl) (by decide) ?_
    exact ok_zreturn (dd TJ1_canEncode_9a6ad_0 8 rfl) rfl
  · refine ok_iload_n (dd TJ1_canEncode_9a6ad_0 2 rfl) 0 rfl ?_
    refine ok_sipush (v := (255 : Int32)) (dd TJ1_canEncode_9a6ad_0 3 rfl) (by decide) ?_
    refine ok_icmp_gt (tgt := 15) (dd TJ1_canEncode_9a6ad_0 4 rfl) (by decide) ?_ ?_
    · refine ok_iconst (v := (0 : Int32)) (dd TJ1_canEncode_9a6ad_0 7 rfl) (by decide) ?_
      exact ok_zreturn (dd TJ1_canEncode_9a6ad_0 8 rfl) rfl
    · refine ok_iconst (v := (1 : Int32)) (dd TJ1_canEncode_9a6ad_0 5 rfl) (by decide) ?_
      refine ok_goto (tgt := 16) (dd TJ1_canEncode_9a6ad_0 6 rfl) (by decide) ?_
      exact ok_zreturn (dd TJ1_canEncode_9a6ad_0 8 rfl) rfl
def F_J1_indexOfChar_4cfef_L7 : Nat → Option Nat → Int32 → Int32 → Int32 → M Int32
  | 0 => fun _ _ _ _ => fl
  | n + 1 => fun x0 x3 x4 x5 => if x3 ≤ x5 then rt (-1 : Int32) else bn (kBt x0 x5) fun v1 => if ¬ v1 = x4 then F_J1_indexOfChar_4cfef_L7 n x0 x3 x4 (x5 + (1 : Int32)) else rt x5
set_option maxRecDepth 100000 in
theorem O_J1_indexOfChar_4cfef_L7 (Γ : Gam) (n : Nat) : ∀ (x0 : Option Nat) (x3 : Int32) (x4 : Int32) (x5 : Int32), Ok Γ mJ1_indexOfChar_4cfef 0 (qo Γ vI) 7 [(0, va_rf x0), (3, .int x3), (4, .int x4), (5, .int x5)] [] (F_J1_indexOfChar_4cfef_L7 n x0 x3 x4 x5) := by
  induction n with
  | zero => intro x0 x3 x4 x5; exact ok_fl
  | succ n ih =>
    intro x0 x3 x4 x5
    rw [F_J1_indexOfChar_4cfef_L7]
    refine ok_iload (dd TJ1_indexOfChar_4cfef_0 5 rfl) 3 rfl ?_
    refine ok_iload_n (dd TJ1_indexOfChar_4cfef_0 6 rfl) 1 rfl ?_
    refine ok_icmp_ge (tgt := 31) (dd TJ1_indexOfChar_4cfef_0 7 rfl) (by decide) ?_ ?_
    · refine ok_iconst (v := (-1 : Int32)) (dd TJ1_indexOfChar_4cfef_0 17 rfl) (by decide) ?_
      exact ok_ireturn (dd TJ1_indexOfChar_4cfef_0 18 rfl) rfl
    · refine ok_aload_n (dd TJ1_indexOfChar_4cfef_0 8 rfl) 0 rfl ?_
      refine ok_iload (dd TJ1_indexOfChar_4cfef_0 9 rfl) 3 rfl ?_
      refine ok_kBt (dd TJ1_indexOfChar_4cfef_0 10 rfl) (fun v1 => ?_)
      refine ok_iload (dd TJ1_indexOfChar_4cfef_0 11 rfl) 2 rfl ?_
      refine ok_icmp_ne (tgt := 25) (dd TJ1_indexOfChar_4cfef_0 12 rfl) (by decide) ?_ ?_
      · refine ok_iinc (lv' := [(5, .int (x5 + (1 : Int32))), (0, va_rf x0), (3, .int x3), (4, .int x4)]) (dd TJ1_indexOfChar_4cfef_0 15 rfl) 3 rfl (congrArg (fun q : Int32 => x5 + q) (show Int32.ofInt (1) = (1 : Int32) from by decide)) (by decide) (by first | rfl | (simp only [List.filter, cat_rf]; rfl)) ?_
        refine ok_goto (tgt := 7) (dd TJ1_indexOfChar_4cfef_0 16 rfl) (by decide) ?_
        refine ok_sub [1, 2, 3, 0] rfl ?_
        exact ih x0 x3 x4 (x5 + (1 : Int32))
      · refine ok_iload (dd TJ1_indexOfChar_4cfef_0 13 rfl) 3 rfl ?_
        exact ok_ireturn (dd TJ1_indexOfChar_4cfef_0 14 rfl) rfl
def F_J1_indexOfChar_4cfef (p0 : Option Nat) (p1 : Int32) (p2 : Int32) (p3 : Int32) : M Int32 := F_J1_indexOfChar_4cfef_L7 FU p0 p3 p1.toInt8.toInt32 p2
set_option maxRecDepth 100000 in
theorem C_J1_indexOfChar_4cfef (Γ : Gam) (p0 : Option Nat) (p1 : Int32) (p2 : Int32) (p3 : Int32) : Ct Γ mJ1_indexOfChar_4cfef 0 vI [va_rf p0, .int p1, .int p2, .int p3] (F_J1_indexOfChar_4cfef p0 p1 p2 p3) := by
  refine ct_in (lv := [(0, va_rf p0), (1, .int p1), (2, .int p2), (3, .int p3)]) (by decide) (by first | rfl | (simp only [lv_args, cat_rf]; rfl)) (by first | exact Nat.le_of_ble_eq_true rfl | (rw [lg_len]; simp only [List.map_cons, List.map_nil, cat_rf]; exact Nat.le_of_ble_eq_true rfl)) ?_
  unfold F_J1_indexOfChar_4cfef
  refine ok_iload_n (dd TJ1_indexOfChar_4cfef_0 0 rfl) 1 rfl ?_
  refine ok_i2b (dd TJ1_indexOfChar_4cfef_0 1 rfl) ?_
  refine ok_istore (lv' := [(4, .int p1.toInt8.toInt32), (0, va_rf p0), (1, .int p1), (2, .int p2), (3, .int p3)]) (dd TJ1_indexOfChar_4cfef_0 2 rfl) (by decide) (by first | rfl | (simp only [List.filter, cat_rf]; rfl)) ?_
  refine ok_iload_n (dd TJ1_indexOfChar_4cfef_0 3 rfl) 3 rfl ?_
  refine ok_istore (lv' := [(5, .int p2), (4, .int p1.toInt8.toInt32), (0, va_rf p0), (1, .int p1), (2, .int p2), (3, .int p3)]) (dd TJ1_indexOfChar_4cfef_0 4 rfl) (by decide) (by first | rfl | (simp only [List.filter, cat_rf]; rfl)) ?_
  refine ok_sub [2, 5, 1, 0] rfl ?_
  exact O_J1_indexOfChar_4cfef_L7 Γ FU p0 p3 p1.toInt8.toInt32 p2
def F_J1_indexOf_4cfef (p0 : Option Nat) (p1 : Int32) (p2 : Int32) (p3 : Int32) : M Int32 := bn (F_J1_canEncode_9a6ad p1) fun v1 => if ¬ v1 = 0 then bn (kLen p0) fun v2 => if (if p2 < (0 : Int32) then (0 : Int32) else p2) < (if v2 < p3 then v2 else p3) then bn (F_J1_indexOfChar_4cfef p0 p1 (if p2 < (0 : Int32) then (0 : Int32) else p2) (if v2 < p3 then v2 else p3)) fun v3 => rt v3 else rt (-1 : Int32) else rt (-1 : Int32)
set_option maxRecDepth 100000 in
theorem C_J1_indexOf_4cfef (Γ : Gam) (p0 : Option Nat) (p1 : Int32) (p2 : Int32) (p3 : Int32) : Ct Γ mJ1_indexOf_4cfef 1 vI [va_rf p0, .int p1, .int p2, .int p3] (F_J1_indexOf_4cfef p0 p1 p2 p3) := by
  refine ct_in (lv := [(0, va_rf p0), (1, .int p1), (2, .int p2), (3, .int p3)]) (by decide) (by first | rfl | (simp only [lv_args, cat_rf]; rfl)) (by first | exact Nat.le_of_ble_eq_true rfl | (rw [lg_len]; simp only [List.map_cons, List.map_nil, cat_rf]; exact Nat.le_of_ble_eq_true rfl)) ?_
  unfold F_J1_indexOf_4cfef
  refine ok_iload_n (dd TJ1_indexOf_4cfef_0 0 rfl) 1 rfl ?_
  refine ok_callSI [.int p1] [] (C_J1_canEncode_9a6ad Γ p1) cy_J1_canEncode_9a6ad ml_RJ1_88 sm_J1_canEncode_9a6ad (by decide) (Nat.le_of_ble_eq_true rfl) rfl (dd TJ1_indexOf_4cfef_0 1 rfl) (fun v1 => ?_)
  refine ok_if_ne (tgt := 9) (dd TJ1_indexOf_4cfef_0 2 rfl) (by decide) ?_ ?_
  · refine ok_iload_n (dd TJ1_indexOf_4cfef_0 5 rfl) 2 rfl ?_
    refine ok_iconst (v := (0 : Int32)) (dd TJ1_indexOf_4cfef_0 6 rfl) (by decide) ?_
    refine ok_mmax ml_RJ1_92 ms_max w_mi mc_max (by decide) (Nat.le_of_ble_eq_true rfl) (dd TJ1_indexOf_4cfef_0 7 rfl) ?_
    refine ok_istore_n (lv' := [(2, .int (if p2 < (0 : Int32) then (0 : Int32) else p2)), (0, va_rf p0), (1, .int p1), (3, .int p3)]) (dd TJ1_indexOf_4cfef_0 8 rfl) (by decide) (by first | rfl | (simp only [List.filter, cat_rf]; rfl)) ?_
    refine ok_iload_n (dd TJ1_indexOf_4cfef_0 9 rfl) 3 rfl ?_
    refine ok_aload_n (dd TJ1_indexOf_4cfef_0 10 rfl) 1 rfl ?_
    refine ok_kLen (dd TJ1_indexOf_4cfef_0 11 rfl) (fun v2 => ?_)
    refine ok_mmin ml_RJ1_38 ms_min w_mi mc_min (by decide) (Nat.le_of_ble_eq_true rfl) (dd TJ1_indexOf_4cfef_0 12 rfl) ?_
    refine ok_istore_n (lv' := [(3, .int (if v2 < p3 then v2 else p3)), (2, .int (if p2 < (0 : Int32) then (0 : Int32) else p2)), (0, va_rf p0), (1, .int p1)]) (dd TJ1_indexOf_4cfef_0 13 rfl) (by decide) (by first | rfl | (simp only [List.filter, cat_rf]; rfl)) ?_
    refine ok_iload_n (dd TJ1_indexOf_4cfef_0 14 rfl) 1 rfl ?_
    refine ok_iload_n (dd TJ1_indexOf_4cfef_0 15 rfl) 0 rfl ?_
    refine ok_icmp_lt (tgt := 29) (dd TJ1_indexOf_4cfef_0 16 rfl) (by decide) ?_ ?_
    · refine ok_aload_n (dd TJ1_indexOf_4cfef_0 19 rfl) 2 rfl ?_
      refine ok_iload_n (dd TJ1_indexOf_4cfef_0 20 rfl) 3 rfl ?_
      refine ok_iload_n (dd TJ1_indexOf_4cfef_0 21 rfl) 1 rfl ?_
      refine ok_iload_n (dd TJ1_indexOf_4cfef_0 22 rfl) 0 rfl ?_
      refine ok_callSI [va_rf p0, .int p1, .int (if p2 < (0 : Int32) then (0 : Int32) else p2), .int (if v2 < p3 then v2 else p3)] [] (C_J1_indexOfChar_4cfef Γ p0 p1 (if p2 < (0 : Int32) then (0 : Int32) else p2) (if v2 < p3 then v2 else p3)) cy_J1_indexOfChar_4cfef ml_RJ1_95 sm_J1_indexOfChar_4cfef (by decide) (Nat.le_of_ble_eq_true rfl) rfl (dd TJ1_indexOf_4cfef_0 23 rfl) (fun v3 => ?_)
      exact ok_ireturn (dd TJ1_indexOf_4cfef_0 24 rfl) rfl
    · refine ok_iconst (v := (-1 : Int32)) (dd TJ1_indexOf_4cfef_0 17 rfl) (by decide) ?_
      exact ok_ireturn (dd TJ1_indexOf_4cfef_0 18 rfl) rfl
  · refine ok_iconst (v := (-1 : Int32)) (dd TJ1_indexOf_4cfef_0 3 rfl) (by decide) ?_
    exact ok_ireturn (dd TJ1_indexOf_4cfef_0 4 rfl) rfl
def F_J0_indexOf_7cf53 (this : Nat) (p0 : Int32) (p1 : Int32) : M Int32 := bn (kRc (some this)) fun b1 => bn (F_J0_isLatin1_aae02 b1) fun v2 => if v2 = 0 then fl else bn (kV (some this)) fun v3 => bn (kRc (some this)) fun b4 => bn (F_J0_length_8abf5 b4) fun v5 => bn (F_J1_indexOf_4cfef v3 p0 p1 v5) fun v6 => rt v6
set_option maxRecDepth 100000 in
theorem C_J0_indexOf_7cf53 (Γ : Gam) (this : Nat) (p0 : Int32) (p1 : Int32) : Ct Γ mJ0_indexOf_7cf53 2 vI [va_rf (some this), .int p0, .int p1] (F_J0_indexOf_7cf53 this p0 p1) := by
  refine ct_in (lv := [(0, va_rf (some this)), (1, .int p0), (2, .int p1)]) (by decide) (by first | rfl | (simp only [lv_args, cat_rf]; rfl)) (by first | exact Nat.le_of_ble_eq_true rfl | (rw [lg_len]; simp only [List.map_cons, List.map_nil, cat_rf]; exact Nat.le_of_ble_eq_true rfl)) ?_
  unfold F_J0_indexOf_7cf53
  refine ok_aload_n (dd TJ0_indexOf_7cf53_0 0 rfl) 0 rfl ?_
  refine ok_callK [] [] (fun b1 => C_J0_isLatin1_aae02 Γ b1) cy_J0_isLatin1_aae02 ml_RJ0_492 im_J0_isLatin1_aae02 se_J0_isLatin1_aae02 (by decide) (Nat.le_of_ble_eq_true rfl) rfl (dd TJ0_indexOf_7cf53_0 1 rfl) (fun v2 => ?_)
  refine ok_if_eq (tgt := 23) (dd TJ0_indexOf_7cf53_0 2 rfl) (by decide) ?_ ?_
  · exact ok_fl
  · refine ok_aload_n (dd TJ0_indexOf_7cf53_0 3 rfl) 0 rfl ?_
    refine ok_kV gs_RJ0_9 (dd TJ0_indexOf_7cf53_0 4 rfl) (fun v3 => ?_)
    refine ok_iload_n (dd TJ0_indexOf_7cf53_0 5 rfl) 1 rfl ?_
    refine ok_iload_n (dd TJ0_indexOf_7cf53_0 6 rfl) 2 rfl ?_
    refine ok_aload_n (dd TJ0_indexOf_7cf53_0 7 rfl) 0 rfl ?_
    refine ok_callK [] [.int p1, .int p0, va_rf v3] (fun b4 => C_J0_length_8abf5 Γ b4) cy_J0_length_8abf5 ml_RJ0_505 im_J0_length_8abf5 se_J0_length_8abf5 (by decide) (Nat.le_of_ble_eq_true rfl) rfl (dd TJ0_indexOf_7cf53_0 8 rfl) (fun v5 => ?_)
    refine ok_callSI [va_rf v3, .int p0, .int p1, .int v5] [] (C_J1_indexOf_4cfef Γ v3 p0 p1 v5) cy_J1_indexOf_4cfef ml_RJ0_637 sm_J1_indexOf_4cfef (by decide) (Nat.le_of_ble_eq_true rfl) rfl (dd TJ0_indexOf_7cf53_0 9 rfl) (fun v6 => ?_)
    refine ok_goto (tgt := 36) (dd TJ0_indexOf_7cf53_0 10 rfl) (by decide) ?_
    exact ok_ireturn (dd TJ0_indexOf_7cf53_0 18 rfl) rfl
def F_J0_indexOf_0f7a4 (this : Nat) (p0 : Int32) : M Int32 := bn (kRc (some this)) fun b1 => bn (F_J0_indexOf_7cf53 b1 p0 (0 : Int32)) fun v2 => rt v2
set_option maxRecDepth 100000 in
theorem C_J0_indexOf_0f7a4 (Γ : Gam) (this : Nat) (p0 : Int32) : Ct Γ mJ0_indexOf_0f7a4 3 vI [va_rf (some this), .int p0] (F_J0_indexOf_0f7a4 this p0) := by
  refine ct_in (lv := [(0, va_rf (some this)), (1, .int p0)]) (by decide) (by first | rfl | (simp only [lv_args, cat_rf]; rfl)) (by first | exact Nat.le_of_ble_eq_true rfl | (rw [lg_len]; simp only [List.map_cons, List.map_nil, cat_rf]; exact Nat.le_of_ble_eq_true rfl)) ?_
  unfold F_J0_indexOf_0f7a4
  refine ok_aload_n (dd TJ0_indexOf_0f7a4_0 0 rfl) 0 rfl ?_
  refine ok_iload_n (dd TJ0_indexOf_0f7a4_0 1 rfl) 1 rfl ?_
  refine ok_iconst (v := (0 : Int32)) (dd TJ0_indexOf_0f7a4_0 2 rfl) (by decide) ?_
  refine ok_callK [.int p0, .int (0 : Int32)] [] (fun b1 => C_J0_indexOf_7cf53 Γ b1 p0 (0 : Int32)) cy_J0_indexOf_7cf53 ml_RJ0_633 im_J0_indexOf_7cf53 se_J0_indexOf_7cf53 (by decide) (Nat.le_of_ble_eq_true rfl) rfl (dd TJ0_indexOf_0f7a4_0 3 rfl) (fun v2 => ?_)
  exact ok_ireturn (dd TJ0_indexOf_0f7a4_0 4 rfl) rfl
def F_X0_init (this : Nat) (p0 : Int32) : M Unit := bn (newA 86 (6 : Int32)) fun r1 => bn (wP 0 0 (some this) r1) fun _ => bn (newA 88 (p0 * (6 : Int32))) fun r2 => bn (wP 0 1 (some this) r2) fun _ => bn (newA 97 p0) fun r3 => bn (wP 0 2 (some this) r3) fun _ => rt ()
set_option maxRecDepth 100000 in
theorem C_X0_init (Γ : Gam) (this : Nat) (p0 : Int32) : Ct Γ mX0_init 1 vV [va_rf (some this), .int p0] (F_X0_init this p0) := by
  refine ct_in (lv := [(0, va_rf (some this)), (1, .int p0)]) (by decide) (by first | rfl | (simp only [lv_args, cat_rf]; rfl)) (by first | exact Nat.le_of_ble_eq_true rfl | (rw [lg_len]; simp only [List.map_cons, List.map_nil, cat_rf]; exact Nat.le_of_ble_eq_true rfl)) ?_
  unfold F_X0_init
  refine ok_aload_n (dd TX0_init_0 0 rfl) 0 rfl ?_
  refine ok_objInit ml_RX0_3 w_oi w_oc ⟨_, rfl⟩ (by decide) (Nat.le_of_ble_eq_true rfl) (dd TX0_init_0 1 rfl) ?_
  refine ok_aload_n (dd TX0_init_0 2 rfl) 0 rfl ?_
  refine ok_bipush (v := (6 : Int32)) (dd TX0_init_0 3 rfl) (by decide) ?_
  refine ok_newA6 (kd := 86) (by decide) rfl cw_RX0_9 ao_GrainPit_Settle (dd TX0_init_0 4 rfl) (fun r1 => ?_)
  refine ok_wP fl_RX0_11 (Or.inr ⟨rfl, rfl, rfl⟩) (tyX0_ok 0 (by decide)) rf_arr (by decide) rfl (dd TX0_init_0 5 rfl) ?_
  refine ok_aload_n (dd TX0_init_0 6 rfl) 0 rfl ?_
  refine ok_iload_n (dd TX0_init_0 7 rfl) 1 rfl ?_
  refine ok_bipush (v := (6 : Int32)) (dd TX0_init_0 8 rfl) (by decide) ?_
  refine ok_imul (dd TX0_init_0 9 rfl) ?_
  refine ok_newAI (kd := 88) (by decide) rfl ac_int (dd TX0_init_0 10 rfl) (fun r2 => ?_)
  refine ok_wP fl_RX0_17 (Or.inr ⟨rfl, rfl, rfl⟩) (tyX0_ok 1 (by decide)) rf_arr (by decide) rfl (dd TX0_init_0 11 rfl) ?_
  refine ok_aload_n (dd TX0_init_0 12 rfl) 0 rfl ?_
  refine ok_iload_n (dd TX0_init_0 13 rfl) 1 rfl ?_
  refine ok_newAL (kd := 97) (by decide) rfl ac_long (dd TX0_init_0 14 rfl) (fun r3 => ?_)
  refine ok_wP fl_RX0_21 (Or.inr ⟨rfl, rfl, rfl⟩) (tyX0_ok 2 (by decide)) rf_arr (by decide) rfl (dd TX0_init_0 15 rfl) ?_
  exact ok_return (dd TX0_init_0 16 rfl) rfl
def F_X1_init (this : Nat) : M Unit := bn (newA 104 (6 : Int32)) fun r1 => bn (wP 1 0 (some this) r1) fun _ => rt ()
set_option maxRecDepth 100000 in
theorem C_X1_init (Γ : Gam) (this : Nat) : Ct Γ mX1_init 1 vV [va_rf (some this)] (F_X1_init this) := by
  refine ct_in (lv := [(0, va_rf (some this))]) (by decide) (by first | rfl | (simp only [lv_args, cat_rf]; rfl)) (by first | exact Nat.le_of_ble_eq_true rfl | (rw [lg_len]; simp only [List.map_cons, List.map_nil, cat_rf]; exact Nat.le_of_ble_eq_true rfl)) ?_
  unfold F_X1_init
  refine ok_aload_n (dd TX1_init_0 0 rfl) 0 rfl ?_
  refine ok_objInit ml_RX1_3 w_oi w_oc ⟨_, rfl⟩ (by decide) (Nat.le_of_ble_eq_true rfl) (dd TX1_init_0 1 rfl) ?_
  refine ok_aload_n (dd TX1_init_0 2 rfl) 0 rfl ?_
  refine ok_bipush (v := (6 : Int32)) (dd TX1_init_0 3 rfl) (by decide) ?_
  refine ok_newAI (kd := 104) (by decide) rfl ac_int (dd TX1_init_0 4 rfl) (fun r1 => ?_)
  refine ok_wP fl_RX1_9 (Or.inr ⟨rfl, rfl, rfl⟩) (tyX1_ok 0 (by decide)) rf_arr (by decide) rfl (dd TX1_init_0 5 rfl) ?_
  exact ok_return (dd TX1_init_0 6 rfl) rfl
def F_X1_gain (this : Nat) (p0 : Int32) (p1 : Int32) (p2 : Int32) : M Unit := bn (gP 1 0 (some this)) fun v1 => bn (lI 104 v1 p0) fun v2 => bn (stI 104 v1 p0 (v2 + p1)) fun _ => bn (gLg 1 1 (some this)) fun v3 => bn (wL 1 1 (some this) (v3 + (p1.toInt64 * p2.toInt64))) fun _ => rt ()
set_option maxRecDepth 100000 in
theorem C_X1_gain (Γ : Gam) (this : Nat) (p0 : Int32) (p1 : Int32) (p2 : Int32) : Ct Γ mX1_gain 0 vV [va_rf (some this), .int p0, .int p1, .int p2] (F_X1_gain this p0 p1 p2) := by
  refine ct_in (lv := [(0, va_rf (some this)), (1, .int p0), (2, .int p1), (3, .int p2)]) (by decide) (by first | rfl | (simp only [lv_args, cat_rf]; rfl)) (by first | exact Nat.le_of_ble_eq_true rfl | (rw [lg_len]; simp only [List.map_cons, List.map_nil, cat_rf]; exact Nat.le_of_ble_eq_true rfl)) ?_
  unfold F_X1_gain
  refine ok_aload_n (dd TX1_gain_0 0 rfl) 0 rfl ?_
  refine ok_gP fl_RX1_9 rfl (dd TX1_gain_0 1 rfl) (fun v1 => ?_)
  refine ok_iload_n (dd TX1_gain_0 2 rfl) 1 rfl ?_
  refine ok_dup2_11 (dd TX1_gain_0 3 rfl) (by first | rfl | exact cat_rf _) (by first | rfl | exact cat_rf _) ?_
  refine ok_lI (kd := 104) (by decide) rfl (dd TX1_gain_0 4 rfl) (fun v2 => ?_)
  refine ok_iload_n (dd TX1_gain_0 5 rfl) 2 rfl ?_
  refine ok_iadd (dd TX1_gain_0 6 rfl) ?_
  refine ok_stI (kd := 104) (by decide) rfl (dd TX1_gain_0 7 rfl) ?_
  refine ok_aload_n (dd TX1_gain_0 8 rfl) 0 rfl ?_
  refine ok_dup (dd TX1_gain_0 9 rfl) (by first | rfl | exact cat_rf _) ?_
  refine ok_gL fl_RX1_15 rfl (dd TX1_gain_0 10 rfl) (fun v3 => ?_)
  refine ok_iload_n (dd TX1_gain_0 11 rfl) 2 rfl ?_
  refine ok_i2l (dd TX1_gain_0 12 rfl) ?_
  refine ok_iload_n (dd TX1_gain_0 13 rfl) 3 rfl ?_
  refine ok_i2l (dd TX1_gain_0 14 rfl) ?_
  refine ok_lmul (dd TX1_gain_0 15 rfl) ?_
  refine ok_ladd (dd TX1_gain_0 16 rfl) ?_
  refine ok_wL fl_RX1_15 (Or.inl rfl) (tyX1_ok 1 (by decide)) (by decide) rfl (dd TX1_gain_0 17 rfl) ?_
  exact ok_return (dd TX1_gain_0 18 rfl) rfl
def F_X2_init (this : Nat) : M Unit := bn (newO 13 3) fun r1 => bn (pRc 13 r1) fun b2 => bn (F_Jx4a65c_init_da8c8 b2) fun _ => bn (wP 2 0 (some this) r1) fun _ => bn (newO 13 3) fun r3 => bn (pRc 13 r3) fun b4 => bn (F_Jx4a65c_init_da8c8 b4) fun _ => bn (wP 2 1 (some this) r3) fun _ => bn (newO 13 3) fun r5 => bn (pRc 13 r5) fun b6 => bn (F_Jx4a65c_init_da8c8 b6) fun _ => bn (wP 2 2 (some this) r5) fun _ => rt ()
set_option maxRecDepth 100000 in
theorem C_X2_init (Γ : Gam) (this : Nat) : Ct Γ mX2_init 4 vV [va_rf (some this)] (F_X2_init this) := by
  refine ct_in (lv := [(0, va_rf (some this))]) (by decide) (by first | rfl | (simp only [lv_args, cat_rf]; rfl)) (by first | exact Nat.le_of_ble_eq_true rfl | (rw [lg_len]; simp only [List.map_cons, List.map_nil, cat_rf]; exact Nat.le_of_ble_eq_true rfl)) ?_
  unfold F_X2_init
  refine ok_aload_n (dd TX2_init_0 0 rfl) 0 rfl ?_
  refine ok_objInit ml_RX2_3 w_oi w_oc ⟨_, rfl⟩ (by decide) (Nat.le_of_ble_eq_true rfl) (dd TX2_init_0 1 rfl) ?_
  refine ok_aload_n (dd TX2_init_0 2 rfl) 0 rfl ?_
  refine ok_newO cf_13 tyJx4a65c tyJx4a65c_ok df_13 cl_RX2_9 ib_13 in_13 (dd TX2_init_0 3 rfl) (fun r1 => ?_)
  refine ok_dup (dd TX2_init_0 4 rfl) (by first | rfl | exact cat_rf _) ?_
  refine ok_callI (cn := 13) [] [va_rf r1, va_rf (some this)] (fun b2 => C_Jx4a65c_init_da8c8 Γ b2) cy_Jx4a65c_init_da8c8 rfl rfl ml_RX2_11 im_Jx4a65c_init_da8c8 (by decide) (Nat.le_of_ble_eq_true rfl) rfl (dd TX2_init_0 5 rfl) ?_
  refine ok_wP fl_RX2_12 (Or.inr ⟨rfl, rfl, rfl⟩) (tyX2_ok 0 (by decide)) rf_obj (by decide) rfl (dd TX2_init_0 6 rfl) ?_
  refine ok_aload_n (dd TX2_init_0 7 rfl) 0 rfl ?_
  refine ok_newO cf_13 tyJx4a65c tyJx4a65c_ok df_13 cl_RX2_9 ib_13 in_13 (dd TX2_init_0 8 rfl) (fun r3 => ?_)
  refine ok_dup (dd TX2_init_0 9 rfl) (by first | rfl | exact cat_rf _) ?_
  refine ok_callI (cn := 13) [] [va_rf r3, va_rf (some this)] (fun b4 => C_Jx4a65c_init_da8c8 Γ b4) cy_Jx4a65c_init_da8c8 rfl rfl ml_RX2_11 im_Jx4a65c_init_da8c8 (by decide) (Nat.le_of_ble_eq_true rfl) rfl (dd TX2_init_0 10 rfl) ?_
  refine ok_wP fl_RX2_18 (Or.inr ⟨rfl, rfl, rfl⟩) (tyX2_ok 1 (by decide)) rf_obj (by decide) rfl (dd TX2_init_0 11 rfl) ?_
  refine ok_aload_n (dd TX2_init_0 12 rfl) 0 rfl ?_
  refine ok_newO cf_13 tyJx4a65c tyJx4a65c_ok df_13 cl_RX2_9 ib_13 in_13 (dd TX2_init_0 13 rfl) (fun r5 => ?_)
  refine ok_dup (dd TX2_init_0 14 rfl) (by first | rfl | exact cat_rf _) ?_
  refine ok_callI (cn := 13) [] [va_rf r5, va_rf (some this)] (fun b6 => C_Jx4a65c_init_da8c8 Γ b6) cy_Jx4a65c_init_da8c8 rfl rfl ml_RX2_11 im_Jx4a65c_init_da8c8 (by decide) (Nat.le_of_ble_eq_true rfl) rfl (dd TX2_init_0 15 rfl) ?_
  refine ok_wP fl_RX2_21 (Or.inr ⟨rfl, rfl, rfl⟩) (tyX2_ok 2 (by decide)) rf_obj (by decide) rfl (dd TX2_init_0 16 rfl) ?_
  exact ok_return (dd TX2_init_0 17 rfl) rfl
def F_X2_side (this : Nat) (p0 : Int32) : M (Option Nat) := if p0 = 0 then bn (gP 2 1 (some this)) fun v1 => rt v1 else bn (gP 2 0 (some this)) fun v2 => rt v2
set_option maxRecDepth 100000 in
theorem C_X2_side (Γ : Gam) (this : Nat) (p0 : Int32) : Ct Γ mX2_side 0 vP [va_rf (some this), .int p0] (F_X2_side this p0) := by
  refine ct_in (lv := [(0, va_rf (some this)), (1, .int p0)]) (by decide) (by first | rfl | (simp only [lv_args, cat_rf]; rfl)) (by first | exact Nat.le_of_ble_eq_true rfl | (rw [lg_len]; simp only [List.map_cons, List.map_nil, cat_rf]; exact Nat.le_of_ble_eq_true rfl)) ?_
  unfold F_X2_side
  refine ok_iload_n (dd TX2_side_0 0 rfl) 1 rfl ?_
  refine ok_if_eq (tgt := 11) (dd TX2_side_0 1 rfl) (by decide) ?_ ?_
  · refine ok_aload_n (dd TX2_side_0 5 rfl) 0 rfl ?_
    refine ok_gP fl_RX2_18 rfl (dd TX2_side_0 6 rfl) (fun v1 => ?_)
    exact ok_areturn (dd TX2_side_0 7 rfl) rfl (by first | exact Or.inl ⟨_, rfl⟩ | exact Or.inr ⟨_, rfl⟩)
  · refine ok_aload_n (dd TX2_side_0 2 rfl) 0 rfl ?_
    refine ok_gP fl_RX2_12 rfl (dd TX2_side_0 3 rfl) (fun v2 => ?_)
    refine ok_goto (tgt := 15) (dd TX2_side_0 4 rfl) (by decide) ?_
    exact ok_areturn (dd TX2_side_0 7 rfl) rfl (by first | exact Or.inl ⟨_, rfl⟩ | exact Or.inr ⟨_, rfl⟩)
def F_X2_isBetter (p0 : Int32) (p1 : Int32) (p2 : Int32) : M Int32 := if p0 = 0 then if p2 ≤ p1 then rz (0 : Int32) else rz (1 : Int32) else if p1 ≤ p2 then rz (0 : Int32) else rz (1 : Int32)
set_option maxRecDepth 100000 in
theorem C_X2_isBetter (Γ : Gam) (p0 : Int32) (p1 : Int32) (p2 : Int32) : Ct Γ mX2_isBetter 0 vI [.int p0, .int p1, .int p2] (F_X2_isBetter p0 p1 p2) := by
  refine ct_in (lv := [(0, .int p0), (1, .int p1), (2, .int p2)]) (by decide) (by first | rfl | (simp only [lv_args, cat_rf]; rfl)) (by first | exact Nat.le_of_ble_eq_true rfl | (rw [lg_len]; simp only [List.map_cons, List.map_nil, cat_rf]; exact Nat.le_of_ble_eq_true rfl)) ?_
  unfold F_X2_isBetter
  refine ok_iload_n (dd TX2_isBetter_0 0 rfl) 0 rfl ?_
  refine ok_if_eq (tgt := 17) (dd TX2_isBetter_0 1 rfl) (by decide) ?_ ?_
  · refine ok_iload_n (dd TX2_isBetter_0 9 rfl) 1 rfl ?_
    refine ok_iload_n (dd TX2_isBetter_0 10 rfl) 2 rfl ?_
    refine ok_icmp_ge (tgt := 26) (dd TX2_isBetter_0 11 rfl) (by decide) ?_ ?_
    · refine ok_iconst (v := (0 : Int32)) (dd TX2_isBetter_0 14 rfl) (by decide) ?_
      exact ok_zreturn (dd TX2_isBetter_0 15 rfl) rfl
    · refine ok_iconst (v := (1 : Int32)) (dd TX2_isBetter_0 12 rfl) (by decide) ?_
      refine ok_goto (tgt := 27) (dd TX2_isBetter_0 13 rfl) (by decide) ?_
      exact ok_zreturn (dd TX2_isBetter_0 15 rfl) rfl
  · refine ok_iload_n (dd TX2_isBetter_0 2 rfl) 1 rfl ?_
    refine ok_iload_n (dd TX2_isBetter_0 3 rfl) 2 rfl ?_
    refine ok_icmp_le (tgt := 13) (dd TX2_isBetter_0 4 rfl) (by decide) ?_ ?_
    · refine ok_iconst (v := (0 : Int32)) (dd TX2_isBetter_0 7 rfl) (by decide) ?_
      refine ok_goto (tgt := 27) (dd TX2_isBetter_0 8 rfl) (by decide) ?_
      exact ok_zreturn (dd TX2_isBetter_0 15 rfl) rfl
    · refine ok_iconst (v := (1 : Int32)) (dd TX2_isBetter_0 5 rfl) (by decide) ?_
      refine ok_goto (tgt := 27) (dd TX2_isBetter_0 6 rfl) (by decide) ?_
      exact ok_zreturn (dd TX2_isBetter_0 15 rfl) rfl
def F_X2_lotsWaiting_L55 (k12 : Int32 → Option Nat → Int32 → Int32 → M Int32) (x2 : Int32) (x3 : Option Nat) (x5 : Int32) (y0 : Int32) (y1 : Int32) : M Int32 := k12 x2 x3 (y1 + y0) (x5 + (1 : Int32))
set_option maxRecDepth 100000 in
theorem O_X2_lotsWaiting_L55 (Γ : Gam) (k12 : Int32 → Option Nat → Int32 → Int32 → M Int32) (hk12 : ∀ (z2 : Int32) (z3 : Option Nat) (z4 : Int32) (z5 : Int32), Ok Γ mX2_lotsWaiting 3 (qo Γ vI) 12 [(2, .int z2), (3, va_rf z3), (4, .int z4), (5, .int z5)] [] (k12 z2 z3 z4 z5)) (x2 : Int32) (x3 : Option Nat) (x5 : Int32) (y0 : Int32) (y1 : Int32) : Ok Γ mX2_lotsWaiting 3 (qo Γ vI) 55 [(2, .int x2), (3, va_rf x3), (5, .int x5)] [.int y0, .int y1] (F_X2_lotsWaiting_L55 k12 x2 x3 x5 y0 y1) := by
  unfold F_X2_lotsWaiting_L55
  refine ok_iadd (dd TX2_lotsWaiting_0 27 rfl) ?_
  refine ok_istore (lv' := [(4, .int (y1 + y0)), (2, .int x2), (3, va_rf x3), (5, .int x5)]) (dd TX2_lotsWaiting_0 28 rfl) (by decide) (by first | rfl | (simp only [List.filter, cat_rf]; rfl)) ?_
  refine ok_iinc (lv' := [(5, .int (x5 + (1 : Int32))), (4, .int (y1 + y0)), (2, .int x2), (3, va_rf x3)]) (dd TX2_lotsWaiting_0 29 rfl) 3 rfl (congrArg (fun q : Int32 => x5 + q) (show Int32.ofInt (1) = (1 : Int32) from by decide)) (by decide) (by first | rfl | (simp only [List.filter, cat_rf]; rfl)) ?_
  refine ok_goto (tgt := 12) (dd TX2_lotsWaiting_0 30 rfl) (by decide) ?_
  refine ok_sub [2, 3, 1, 0] rfl ?_
  exact hk12 x2 x3 (y1 + y0) (x5 + (1 : Int32))
def F_X2_lotsWaiting_L12 : Nat → Int32 → Option Nat → Int32 → Int32 → M Int32
  | 0 => fun _ _ _ _ => fl
  | n + 1 => fun x2 x3 x4 x5 => bn (pRc 13 x3) fun b3 => bn (F_Jx4a65c_size_8abf5 b3) fun v4 => if v4 ≤ x5 then rt x4 else bn (pRc 13 x3) fun b5 => bn (F_Jx4a65c_get_915e3 b5 x5) fun v6 => bn (cst 9 v6) fun _ => bn (gI 9 0 v6) fun v7 => if ¬ v7 = x2 then F_X2_lotsWaiting_L55 (F_X2_lotsWaiting_L12 n) x2 x3 x5 (0 : Int32) x4 else bn (pRc 13 x3) fun b8 => bn (F_Jx4a65c_get_915e3 b8 x5) fun v9 => bn (cst 9 v9) fun _ => bn (gI 9 3 v9) fun v10 => F_X2_lotsWaiting_L55 (F_X2_lotsWaiting_L12 n) x2 x3 x5 v10 x4
set_option maxRecDepth 100000 in
theorem O_X2_lotsWaiting_L12 (Γ : Gam) (n : Nat) : ∀ (x2 : Int32) (x3 : Option Nat) (x4 : Int32) (x5 : Int32), Ok Γ mX2_lotsWaiting 3 (qo Γ vI) 12 [(2, .int x2), (3, va_rf x3), (4, .int x4), (5, .int x5)] [] (F_X2_lotsWaiting_L12 n x2 x3 x4 x5) := by
  induction n with
  | zero => intro x2 x3 x4 x5; exact ok_fl
  | succ n ih =>
    intro x2 x3 x4 x5
    rw [F_X2_lotsWaiting_L12]
    refine ok_iload (dd TX2_lotsWaiting_0 8 rfl) 3 rfl ?_
    refine ok_aload_n (dd TX2_lotsWaiting_0 9 rfl) 1 rfl ?_
    refine ok_callVI (cn := 13) [] [.int x5] (fun b3 => C_Jx4a65c_size_8abf5 Γ b3) rfl cy_Jx4a65c_size_8abf5 ml_RX2_28 im_Jx4a65c_size_8abf5 se_Jx4a65c_size_8abf5 (by decide) (Nat.le_of_ble_eq_true rfl) rfl (dd TX2_lotsWaiting_0 10 rfl) (fun v4 => ?_)
    refine ok_icmp_ge (tgt := 64) (dd TX2_lotsWaiting_0 11 rfl) (by decide) ?_ ?_
    · refine ok_iload (dd TX2_lotsWaiting_0 31 rfl) 2 rfl ?_
      exact ok_ireturn (dd TX2_lotsWaiting_0 32 rfl) rfl
    · refine ok_iload (dd TX2_lotsWaiting_0 12 rfl) 2 rfl ?_
      refine ok_aload_n (dd TX2_lotsWaiting_0 13 rfl) 1 rfl ?_
      refine ok_iload (dd TX2_lotsWaiting_0 14 rfl) 3 rfl ?_
      refine ok_callVR (cn := 13) [.int x5] [.int x4] (fun b5 => C_Jx4a65c_get_915e3 Γ b5 x5) rfl cy_Jx4a65c_get_915e3 ml_RX2_38 im_Jx4a65c_get_915e3 se_Jx4a65c_get_915e3 (by decide) (Nat.le_of_ble_eq_true rfl) rfl (dd TX2_lotsWaiting_0 15 rfl) (fun v6 => ?_)
      refine ok_cst (cn := 9) rfl cl_RX2_33 (dd TX2_lotsWaiting_0 16 rfl) ?_
      refine ok_gI fl_RX2_50 rfl (dd TX2_lotsWaiting_0 17 rfl) (fun v7 => ?_)
      refine ok_iload_n (dd TX2_lotsWaiting_0 18 rfl) 0 rfl ?_
      refine ok_icmp_ne (tgt := 54) (dd TX2_lotsWaiting_0 19 rfl) (by decide) ?_ ?_
      · refine ok_iconst (v := (0 : Int32)) (dd TX2_lotsWaiting_0 26 rfl) (by decide) ?_
        refine ok_sub [0, 1, 3] rfl ?_
        exact O_X2_lotsWaiting_L55 Γ (F_X2_lotsWaiting_L12 n) ih x2 x3 x5 (0 : Int32) x4
      · refine ok_aload_n (dd TX2_lotsWaiting_0 20 rfl) 1 rfl ?_
        refine ok_iload (dd TX2_lotsWaiting_0 21 rfl) 3 rfl ?_
        refine ok_callVR (cn := 13) [.int x5] [.int x4] (fun b8 => C_Jx4a65c_get_915e3 Γ b8 x5) rfl cy_Jx4a65c_get_915e3 ml_RX2_38 im_Jx4a65c_get_915e3 se_Jx4a65c_get_915e3 (by decide) (Nat.le_of_ble_eq_true rfl) rfl (dd TX2_lotsWaiting_0 22 rfl) (fun v9 => ?_)
        refine ok_cst (cn := 9) rfl cl_RX2_33 (dd TX2_lotsWaiting_0 23 rfl) ?_
        refine ok_gI fl_RX2_53 rfl (dd TX2_lotsWaiting_0 24 rfl) (fun v10 => ?_)
        refine ok_goto (tgt := 55) (dd TX2_lotsWaiting_0 25 rfl) (by decide) ?_
        refine ok_sub [0, 1, 3] rfl ?_
        exact O_X2_lotsWaiting_L55 Γ (F_X2_lotsWaiting_L12 n) ih x2 x3 x5 v10 x4
def F_X2_lotsWaiting (this : Nat) (p0 : Int32) (p1 : Int32) : M Int32 := bn (pRc 2 (some this)) fun b1 => bn (F_X2_side b1 p0) fun v2 => F_X2_lotsWaiting_L12 FU p1 v2 (0 : Int32) (0 : Int32)
set_option maxRecDepth 100000 in
theorem C_X2_lotsWaiting (Γ : Gam) (this : Nat) (p0 : Int32) (p1 : Int32) : Ct Γ mX2_lotsWaiting 3 vI [va_rf (some this), .int p0, .int p1] (F_X2_lotsWaiting this p0 p1) := by
  refine ct_in (lv := [(0, va_rf (some this)), (1, .int p0), (2, .int p1)]) (by decide) (by first | rfl | (simp only [lv_args, cat_rf]; rfl)) (by first | exact Nat.le_of_ble_eq_true rfl | (rw [lg_len]; simp only [List.map_cons, List.map_nil, cat_rf]; exact Nat.le_of_ble_eq_true rfl)) ?_
  unfold F_X2_lotsWaiting
  refine ok_aload_n (dd TX2_lotsWaiting_0 0 rfl) 0 rfl ?_
  refine ok_iload_n (dd TX2_lotsWaiting_0 1 rfl) 1 rfl ?_
  refine ok_callVR (cn := 2) [.int p0] [] (fun b1 => C_X2_side Γ b1 p0) rfl cy_X2_side ml_RX2_24 im_X2_side se_X2_side (by decide) (Nat.le_of_ble_eq_true rfl) rfl (dd TX2_lotsWaiting_0 2 rfl) (fun v2 => ?_)
  refine ok_astore_n (lv' := [(3, va_rf v2), (0, va_rf (some this)), (1, .int p0), (2, .int p1)]) (dd TX2_lotsWaiting_0 3 rfl) (by decide) (by first | rfl | (simp only [List.filter, cat_rf]; rfl)) ?_
  refine ok_iconst (v := (0 : Int32)) (dd TX2_lotsWaiting_0 4 rfl) (by decide) ?_
  refine ok_istore (lv' := [(4, .int (0 : Int32)), (3, va_rf v2), (0, va_rf (some this)), (1, .int p0), (2, .int p1)]) (dd TX2_lotsWaiting_0 5 rfl) (by decide) (by first | rfl | (simp only [List.filter, cat_rf]; rfl)) ?_
  refine ok_iconst (v := (0 : Int32)) (dd TX2_lotsWaiting_0 6 rfl) (by decide) ?_
  refine ok_istore (lv' := [(5, .int (0 : Int32)), (4, .int (0 : Int32)), (3, va_rf v2), (0, va_rf (some this)), (1, .int p0), (2, .int p1)]) (dd TX2_lotsWaiting_0 7 rfl) (by decide) (by first | rfl | (simp only [List.filter, cat_rf]; rfl)) ?_
  refine ok_sub [5, 2, 1, 0] rfl ?_
  exact O_X2_lotsWaiting_L12 Γ FU p1 v2 (0 : Int32) (0 : Int32)
def F_X2_dropAll (this : Nat) : M Unit := bn (gP 2 0 (some this)) fun v1 => bn (pRc 13 v1) fun b2 => bn (F_Jx4a65c_clear_da8c8 b2) fun _ => bn (gP 2 1 (some this)) fun v3 => bn (pRc 13 v3) fun b4 => bn (F_Jx4a65c_clear_da8c8 b4) fun _ => rt ()
set_option maxRecDepth 100000 in
theorem C_X2_dropAll (Γ : Gam) (this : Nat) : Ct Γ mX2_dropAll 1 vV [va_rf (some this)] (F_X2_dropAll this) := by
  refine ct_in (lv := [(0, va_rf (some this))]) (by decide) (by first | rfl | (simp only [lv_args, cat_rf]; rfl)) (by first | exact Nat.le_of_ble_eq_true rfl | (rw [lg_len]; simp only [List.map_cons, List.map_nil, cat_rf]; exact Nat.le_of_ble_eq_true rfl)) ?_
  unfold F_X2_dropAll
  refine ok_aload_n (dd TX2_dropAll_0 0 rfl) 0 rfl ?_
  refine ok_gP fl_RX2_12 rfl (dd TX2_dropAll_0 1 rfl) (fun v1 => ?_)
  refine ok_callVV (cn := 13) [] [] (fun b2 => C_Jx4a65c_clear_da8c8 Γ b2) rfl cy_Jx4a65c_clear_da8c8 ml_RX2_56 im_Jx4a65c_clear_da8c8 se_Jx4a65c_clear_da8c8 (by decide) (Nat.le_of_ble_eq_true rfl) rfl (dd TX2_dropAll_0 2 rfl) ?_
  refine ok_aload_n (dd TX2_dropAll_0 3 rfl) 0 rfl ?_
  refine ok_gP fl_RX2_18 rfl (dd TX2_dropAll_0 4 rfl) (fun v3 => ?_)
  refine ok_callVV (cn := 13) [] [] (fun b4 => C_Jx4a65c_clear_da8c8 Γ b4) rfl cy_Jx4a65c_clear_da8c8 ml_RX2_56 im_Jx4a65c_clear_da8c8 se_Jx4a65c_clear_da8c8 (by decide) (Nat.le_of_ble_eq_true rfl) rfl (dd TX2_dropAll_0 5 rfl) ?_
  exact ok_return (dd TX2_dropAll_0 6 rfl) rfl
def F_X2_numberAt (p0 : Option Nat) (p1 : Int32) : M Int32 := if p1 < 0 then rt (-1 : Int32) else bn (pRc 13 p0) fun b1 => bn (F_Jx4a65c_size_8abf5 b1) fun v2 => if v2 ≤ p1 then rt (-1 : Int32) else bn (pRc 13 p0) fun b3 => bn (F_Jx4a65c_get_915e3 b3 p1) fun v4 => bn (cst 9 v4) fun _ => bn (gI 9 2 v4) fun v5 => rt v5
set_option maxRecDepth 100000 in
theorem C_X2_numberAt (Γ : Gam) (p0 : Option Nat) (p1 : Int32) : Ct Γ mX2_numberAt 3 vI [va_rf p0, .int p1] (F_X2_numberAt p0 p1) := by
  refine ct_in (lv := [(0, va_rf p0), (1, .int p1)]) (by decide) (by first | rfl | (simp only [lv_args, cat_rf]; rfl)) (by first | exact Nat.le_of_ble_eq_true rfl | (rw [lg_len]; simp only [List.map_cons, List.map_nil, cat_rf]; exact Nat.le_of_ble_eq_true rfl)) ?_
  unfold F_X2_numberAt
  refine ok_iload_n (dd TX2_numberAt_0 0 rfl) 1 rfl ?_
  refine ok_if_lt (tgt := 26) (dd TX2_numberAt_0 1 rfl) (by decide) ?_ ?_
  · refine ok_iconst (v := (-1 : Int32)) (dd TX2_numberAt_0 12 rfl) (by decide) ?_
    exact ok_ireturn (dd TX2_numberAt_0 13 rfl) rfl
  · refine ok_iload_n (dd TX2_numberAt_0 2 rfl) 1 rfl ?_
    refine ok_aload_n (dd TX2_numberAt_0 3 rfl) 0 rfl ?_
    refine ok_callVI (cn := 13) [] [.int p1] (fun b1 => C_Jx4a65c_size_8abf5 Γ b1) rfl cy_Jx4a65c_size_8abf5 ml_RX2_28 im_Jx4a65c_size_8abf5 se_Jx4a65c_size_8abf5 (by decide) (Nat.le_of_ble_eq_true rfl) rfl (dd TX2_numberAt_0 4 rfl) (fun v2 => ?_)
    refine ok_icmp_ge (tgt := 26) (dd TX2_numberAt_0 5 rfl) (by decide) ?_ ?_
    · refine ok_iconst (v := (-1 : Int32)) (dd TX2_numberAt_0 12 rfl) (by decide) ?_
      exact ok_ireturn (dd TX2_numberAt_0 13 rfl) rfl
    · refine ok_aload_n (dd TX2_numberAt_0 6 rfl) 0 rfl ?_
      refine ok_iload_n (dd TX2_numberAt_0 7 rfl) 1 rfl ?_
      refine ok_callVR (cn := 13) [.int p1] [] (fun b3 => C_Jx4a65c_get_915e3 Γ b3 p1) rfl cy_Jx4a65c_get_915e3 ml_RX2_38 im_Jx4a65c_get_915e3 se_Jx4a65c_get_915e3 (by decide) (Nat.le_of_ble_eq_true rfl) rfl (dd TX2_numberAt_0 8 rfl) (fun v4 => ?_)
      refine ok_cst (cn := 9) rfl cl_RX2_33 (dd TX2_numberAt_0 9 rfl) ?_
      refine ok_gI fl_RX2_69 rfl (dd TX2_numberAt_0 10 rfl) (fun v5 => ?_)
      refine ok_goto (tgt := 27) (dd TX2_numberAt_0 11 rfl) (by decide) ?_
      exact ok_ireturn (dd TX2_numberAt_0 13 rfl) rfl
def F_X2_latestOf_L48 (k4 : Option Nat → Int32 → Int32 → Int32 → M Int32) (x0 : Option Nat) (x1 : Int32) (x2 : Int32) (x3 : Int32) : M Int32 := k4 x0 x1 x2 (x3 + (1 : Int32))
set_option maxRecDepth 100000 in
theorem O_X2_latestOf_L48 (Γ : Gam) (k4 : Option Nat → Int32 → Int32 → Int32 → M Int32) (hk4 : ∀ (z0 : Option Nat) (z1 : Int32) (z2 : Int32) (z3 : Int32), Ok Γ mX2_latestOf 4 (qo Γ vI) 4 [(0, va_rf z0), (1, .int z1), (2, .int z2), (3, .int z3)] [] (k4 z0 z1 z2 z3)) (x0 : Option Nat) (x1 : Int32) (x2 : Int32) (x3 : Int32) : Ok Γ mX2_latestOf 4 (qo Γ vI) 48 [(0, va_rf x0), (1, .int x1), (2, .int x2), (3, .int x3)] [] (F_X2_latestOf_L48 k4 x0 x1 x2 x3) := by
  unfold F_X2_latestOf_L48
  refine ok_iinc (lv' := [(3, .int (x3 + (1 : Int32))), (0, va_rf x0), (1, .int x1), (2, .int x2)]) (dd TX2_latestOf_0 26 rfl) 3 rfl (congrArg (fun q : Int32 => x3 + q) (show Int32.ofInt (1) = (1 : Int32) from by decide)) (by decide) (by first | rfl | (simp only [List.filter, cat_rf]; rfl)) ?_
  refine ok_goto (tgt := 4) (dd TX2_latestOf_0 27 rfl) (by decide) ?_
  refine ok_sub [1, 2, 3, 0] rfl ?_
  exact hk4 x0 x1 x2 (x3 + (1 : Int32))
def F_X2_latestOf_L4 : Nat → Option Nat → Int32 → Int32 → Int32 → M Int32
  | 0 => fun _ _ _ _ => fl
  | n + 1 => fun x0 x1 x2 x3 => bn (pRc 13 x0) fun b1 => bn (F_Jx4a65c_size_8abf5 b1) fun v2 => if v2 ≤ x3 then rt x2 else bn (pRc 13 x0) fun b3 => bn (F_Jx4a65c_get_915e3 b3 x3) fun v4 => bn (cst 9 v4) fun _ => bn (gI 9 0 v4) fun v5 => if ¬ v5 = x1 then F_X2_latestOf_L48 (F_X2_latestOf_L4 n) x0 x1 x2 x3 else bn (pRc 13 x0) fun b6 => bn (F_Jx4a65c_get_915e3 b6 x3) fun v7 => bn (cst 9 v7) fun _ => bn (gI 9 2 v7) fun v8 => bn (F_X2_numberAt x0 x2) fun v9 => if v8 ≤ v9 then F_X2_latestOf_L48 (F_X2_latestOf_L4 n) x0 x1 x2 x3 else F_X2_latestOf_L48 (F_X2_latestOf_L4 n) x0 x1 x3 x3
set_option maxRecDepth 100000 in
theorem O_X2_latestOf_L4 (Γ : Gam) (n : Nat) : ∀ (x0 : Option Nat) (x1 : Int32) (x2 : Int32) (x3 : Int32), Ok Γ mX2_latestOf 4 (qo Γ vI) 4 [(0, va_rf x0), (1, .int x1), (2, .int x2), (3, .int x3)] [] (F_X2_latestOf_L4 n x0 x1 x2 x3) := by
  induction n with
  | zero => intro x0 x1 x2 x3; exact ok_fl
  | succ n ih =>
    intro x0 x1 x2 x3
    rw [F_X2_latestOf_L4]
    refine ok_iload_n (dd TX2_latestOf_0 4 rfl) 3 rfl ?_
    refine ok_aload_n (dd TX2_latestOf_0 5 rfl) 0 rfl ?_
    refine ok_callVI (cn := 13) [] [.int x3] (fun b1 => C_Jx4a65c_size_8abf5 Γ b1) rfl cy_Jx4a65c_size_8abf5 ml_RX2_28 im_Jx4a65c_size_8abf5 se_Jx4a65c_size_8abf5 (by decide) (Nat.le_of_ble_eq_true rfl) rfl (dd TX2_latestOf_0 6 rfl) (fun v2 => ?_)
    refine ok_icmp_ge (tgt := 54) (dd TX2_latestOf_0 7 rfl) (by decide) ?_ ?_
    · refine ok_iload_n (dd TX2_latestOf_0 28 rfl) 2 rfl ?_
      exact ok_ireturn (dd TX2_latestOf_0 29 rfl) rfl
    · refine ok_aload_n (dd TX2_latestOf_0 8 rfl) 0 rfl ?_
      refine ok_iload_n (dd TX2_latestOf_0 9 rfl) 3 rfl ?_
      refine ok_callVR (cn := 13) [.int x3] [] (fun b3 => C_Jx4a65c_get_915e3 Γ b3 x3) rfl cy_Jx4a65c_get_915e3 ml_RX2_38 im_Jx4a65c_get_915e3 se_Jx4a65c_get_915e3 (by decide) (Nat.le_of_ble_eq_true rfl) rfl (dd TX2_latestOf_0 10 rfl) (fun v4 => ?_)
      refine ok_cst (cn := 9) rfl cl_RX2_33 (dd TX2_latestOf_0 11 rfl) ?_
      refine ok_gI fl_RX2_50 rfl (dd TX2_latestOf_0 12 rfl) (fun v5 => ?_)
      refine ok_iload_n (dd TX2_latestOf_0 13 rfl) 1 rfl ?_
      refine ok_icmp_ne (tgt := 48) (dd TX2_latestOf_0 14 rfl) (by decide) ?_ ?_
      · exact O_X2_latestOf_L48 Γ (F_X2_latestOf_L4 n) ih x0 x1 x2 x3
      · refine ok_aload_n (dd TX2_latestOf_0 15 rfl) 0 rfl ?_
        refine ok_iload_n (dd TX2_latestOf_0 16 rfl) 3 rfl ?_
        refine ok_callVR (cn := 13) [.int x3] [] (fun b6 => C_Jx4a65c_get_915e3 Γ b6 x3) rfl cy_Jx4a65c_get_915e3 ml_RX2_38 im_Jx4a65c_get_915e3 se_Jx4a65c_get_915e3 (by decide) (Nat.le_of_ble_eq_true rfl) rfl (dd TX2_latestOf_0 17 rfl) (fun v7 => ?_)
        refine ok_cst (cn := 9) rfl cl_RX2_33 (dd TX2_latestOf_0 18 rfl) ?_
        refine ok_gI fl_RX2_69 rfl (dd TX2_latestOf_0 19 rfl) (fun v8 => ?_)
        refine ok_aload_n (dd TX2_latestOf_0 20 rfl) 0 rfl ?_
        refine ok_iload_n (dd TX2_latestOf_0 21 rfl) 2 rfl ?_
        refine ok_callSI [va_rf x0, .int x2] [.int v8] (C_X2_numberAt Γ x0 x2) cy_X2_numberAt ml_RX2_63 sm_X2_numberAt (by decide) (Nat.le_of_ble_eq_true rfl) rfl (dd TX2_latestOf_0 22 rfl) (fun v9 => ?_)
        refine ok_icmp_le (tgt := 48) (dd TX2_latestOf_0 23 rfl) (by decide) ?_ ?_
        · exact O_X2_latestOf_L48 Γ (F_X2_latestOf_L4 n) ih x0 x1 x2 x3
        · refine ok_iload_n (dd TX2_latestOf_0 24 rfl) 3 rfl ?_
          refine ok_istore_n (lv' := [(2, .int x3), (0, va_rf x0), (1, .int x1), (3, .int x3)]) (dd TX2_latestOf_0 25 rfl) (by decide) (by first | rfl | (simp only [List.filter, cat_rf]; rfl)) ?_
          refine ok_sub [1, 2, 0, 3] rfl ?_
          exact O_X2_latestOf_L48 Γ (F_X2_latestOf_L4 n) ih x0 x1 x3 x3
def F_X2_latestOf (p0 : Option Nat) (p1 : Int32) : M Int32 := F_X2_latestOf_L4 FU p0 p1 (-1 : Int32) (0 : Int32)
set_option maxRecDepth 100000 in
theorem C_X2_latestOf (Γ : Gam) (p0 : Option Nat) (p1 : Int32) : Ct Γ mX2_latestOf 4 vI [va_rf p0, .int p1] (F_X2_latestOf p0 p1) := by
  refine ct_in (lv := [(0, va_rf p0), (1, .int p1)]) (by decide) (by first | rfl | (simp only [lv_args, cat_rf]; rfl)) (by first | exact Nat.le_of_ble_eq_true rfl | (rw [lg_len]; simp only [List.map_cons, List.map_nil, cat_rf]; exact Nat.le_of_ble_eq_true rfl)) ?_
  unfold F_X2_latestOf
  refine ok_iconst (v := (-1 : Int32)) (dd TX2_latestOf_0 0 rfl) (by decide) ?_
  refine ok_istore_n (lv' := [(2, .int (-1 : Int32)), (0, va_rf p0), (1, .int p1)]) (dd TX2_latestOf_0 1 rfl) (by decide) (by first | rfl | (simp only [List.filter, cat_rf]; rfl)) ?_
  refine ok_iconst (v := (0 : Int32)) (dd TX2_latestOf_0 2 rfl) (by decide) ?_
  refine ok_istore_n (lv' := [(3, .int (0 : Int32)), (2, .int (-1 : Int32)), (0, va_rf p0), (1, .int p1)]) (dd TX2_latestOf_0 3 rfl) (by decide) (by first | rfl | (simp only [List.filter, cat_rf]; rfl)) ?_
  refine ok_sub [2, 3, 1, 0] rfl ?_
  exact O_X2_latestOf_L4 Γ FU p0 p1 (-1 : Int32) (0 : Int32)
def F_X2_takeLongs_L119 (k17 : Nat → Int32 → Int32 → Int32 → Int32 → Int32 → M Unit) (this : Nat) (x1 : Int32) (x3 : Int32) (x4 : Int32) (x5 : Int32) (x6 : Int32) : M Unit := k17 this x1 x3 x4 x5 (x6 + (1 : Int32))
set_option maxRecDepth 100000 in
theorem O_X2_takeLongs_L119 (Γ : Gam) (k17 : Nat → Int32 → Int32 → Int32 → Int32 → Int32 → M Unit) (hk17 : ∀ (z0 : Nat) (z1 : Int32) (z3 : Int32) (z4 : Int32) (z5 : Int32) (z6 : Int32), Ok Γ mX2_takeLongs 3 (qo Γ vV) 17 [(0, va_rf (some z0)), (1, .int z1), (3, .int z3), (4, .int z4), (5, .int z5), (6, .int z6)] [] (k17 z0 z1 z3 z4 z5 z6)) (this : Nat) (x1 : Int32) (x3 : Int32) (x4 : Int32) (x5 : Int32) (x6 : Int32) : Ok Γ mX2_takeLongs 3 (qo Γ vV) 119 [(0, va_rf (some this)), (1, .int x1), (3, .int x3), (4, .int x4), (5, .int x5), (6, .int x6)] [] (F_X2_takeLongs_L119 k17 this x1 x3 x4 x5 x6) := by
  unfold F_X2_takeLongs_L119
  refine ok_iinc (lv' := [(6, .int (x6 + (1 : Int32))), (0, va_rf (some this)), (1, .int x1), (3, .int x3), (4, .int x4), (5, .int x5)]) (dd TX2_takeLongs_1 17 rfl) 5 rfl (congrArg (fun q : Int32 => x6 + q) (show Int32.ofInt (1) = (1 : Int32) from by decide)) (by decide) (by first | rfl | (simp only [List.filter, cat_rf]; rfl)) ?_
  refine ok_goto (tgt := 17) (dd TX2_takeLongs_1 18 rfl) (by decide) ?_
  refine ok_sub [1, 2, 3, 4, 5, 0] rfl ?_
  exact hk17 this x1 x3 x4 x5 (x6 + (1 : Int32))
def F_X2_takeLongs_L76 (k17 : Nat → Int32 → Int32 → Int32 → Int32 → Int32 → M Unit) (this : Nat) (x1 : Int32) (x3 : Int32) (x4 : Int32) (x5 : Int32) (x6 : Int32) (x7 : Option Nat) (y0 : Int32) : M Unit := bn (gI 9 3 x7) fun v12 => bn (wI 9 3 x7 (v12 - y0)) fun _ => bn (gI 9 3 x7) fun v13 => if ¬ v13 = 0 then F_X2_takeLongs_L119 k17 this x1 (x3 - y0) (x4 + (1 : Int32)) x5 x6 else bn (gP 2 2 (some this)) fun v14 => bn (pRc 13 v14) fun b15 => bn (F_Jx4a65c_remove_915e3 b15 x4) fun v16 => F_X2_takeLongs_L119 k17 this x1 (x3 - y0) x4 x5 x6
set_option maxRecDepth 100000 in
theorem O_X2_takeLongs_L76 (Γ : Gam) (k17 : Nat → Int32 → Int32 → Int32 → Int32 → Int32 → M Unit) (hk17 : ∀ (z0 : Nat) (z1 : Int32) (z3 : Int32) (z4 : Int32) (z5 : Int32) (z6 : Int32), Ok Γ mX2_takeLongs 3 (qo Γ vV) 17 [(0, va_rf (some z0)), (1, .int z1), (3, .int z3), (4, .int z4), (5, .int z5), (6, .int z6)] [] (k17 z0 z1 z3 z4 z5 z6)) (this : Nat) (x1 : Int32) (x3 : Int32) (x4 : Int32) (x5 : Int32) (x6 : Int32) (x7 : Option Nat) (y0 : Int32) : Ok Γ mX2_takeLongs 3 (qo Γ vV) 76 [(0, va_rf (some this)), (1, .int x1), (3, .int x3), (4, .int x4), (5, .int x5), (6, .int x6), (7, va_rf x7)] [.int y0] (F_X2_takeLongs_L76 k17 this x1 x3 x4 x5 x6 x7 y0) := by
  unfold F_X2_takeLongs_L76
  refine ok_istore (lv' := [(8, .int y0), (0, va_rf (some this)), (1, .int x1), (3, .int x3), (4, .int x4), (5, .int x5), (6, .int x6), (7, va_rf x7)]) (dd TX2_takeLongs_0 36 rfl) (by decide) (by first | rfl | (simp only [List.filter, cat_rf]; rfl)) ?_
  refine ok_iload_n (dd TX2_takeLongs_0 37 rfl) 3 rfl ?_
  refine ok_iload (dd TX2_takeLongs_0 38 rfl) 0 rfl ?_
  refine ok_isub (dd TX2_takeLongs_0 39 rfl) ?_
  refine ok_istore_n (lv' := [(3, .int (x3 - y0)), (8, .int y0), (0, va_rf (some this)), (1, .int x1), (4, .int x4), (5, .int x5), (6, .int x6), (7, va_rf x7)]) (dd TX2_takeLongs_1 0 rfl) (by decide) (by first | rfl | (simp only [List.filter, cat_rf]; rfl)) ?_
  refine ok_aload (dd TX2_takeLongs_1 1 rfl) 7 rfl ?_
  refine ok_dup (dd TX2_takeLongs_1 2 rfl) (by first | rfl | exact cat_rf _) ?_
  refine ok_gI fl_RX2_53 rfl (dd TX2_takeLongs_1 3 rfl) (fun v12 => ?_)
  refine ok_iload (dd TX2_takeLongs_1 4 rfl) 1 rfl ?_
  refine ok_isub (dd TX2_takeLongs_1 5 rfl) ?_
  refine ok_wI fl_RX2_53 (Or.inl rfl) (tyX9_ok 3 (by decide)) (by decide) rfl (dd TX2_takeLongs_1 6 rfl) ?_
  refine ok_aload (dd TX2_takeLongs_1 7 rfl) 7 rfl ?_
  refine ok_gI fl_RX2_53 rfl (dd TX2_takeLongs_1 8 rfl) (fun v13 => ?_)
  refine ok_if_ne (tgt := 116) (dd TX2_takeLongs_1 9 rfl) (by decide) ?_ ?_
  · refine ok_iinc (lv' := [(4, .int (x4 + (1 : Int32))), (3, .int (x3 - y0)), (8, .int y0), (0, va_rf (some this)), (1, .int x1), (5, .int x5), (6, .int x6), (7, va_rf x7)]) (dd TX2_takeLongs_1 16 rfl) 4 rfl (congrArg (fun q : Int32 => x4 + q) (show Int32.ofInt (1) = (1 : Int32) from by decide)) (by decide) (by first | rfl | (simp only [List.filter, cat_rf]; rfl)) ?_
    refine ok_sub [3, 4, 1, 0, 5, 6] rfl ?_
    exact O_X2_takeLongs_L119 Γ k17 hk17 this x1 (x3 - y0) (x4 + (1 : Int32)) x5 x6
  · refine ok_aload_n (dd TX2_takeLongs_1 10 rfl) 2 rfl ?_
    refine ok_gP fl_RX2_21 rfl (dd TX2_takeLongs_1 11 rfl) (fun v14 => ?_)
    refine ok_iload (dd TX2_takeLongs_1 12 rfl) 4 rfl ?_
    refine ok_callVR (cn := 13) [.int x4] [] (fun b15 => C_Jx4a65c_remove_915e3 Γ b15 x4) rfl cy_Jx4a65c_remove_915e3 ml_RX2_66 im_Jx4a65c_remove_915e3 se_Jx4a65c_remove_915e3 (by decide) (Nat.le_of_ble_eq_true rfl) rfl (dd TX2_takeLongs_1 13 rfl) (fun v16 => ?_)
    refine ok_pop (dd TX2_takeLongs_1 14 rfl) (by first | rfl | exact cat_rf _) ?_
    refine ok_goto (tgt := 119) (dd TX2_takeLongs_1 15 rfl) (by decide) ?_
    refine ok_sub [2, 3, 0, 4, 5, 6] rfl ?_
    exact O_X2_takeLongs_L119 Γ k17 hk17 this x1 (x3 - y0) x4 x5 x6
def F_X2_takeLongs_L17 : Nat → Nat → Int32 → Int32 → Int32 → Int32 → Int32 → M Unit
  | 0 => fun _ _ _ _ _ _ => fl
  | n + 1 => fun this x1 x3 x4 x5 x6 => if x5 ≤ x6 then rt () else if x3 ≤ 0 then rt () else bn (gP 2 2 (some this)) fun v4 => bn (pRc 13 v4) fun b5 => bn (F_Jx4a65c_size_8abf5 b5) fun v6 => if v6 ≤ x4 then rt () else bn (gP 2 2 (some this)) fun v7 => bn (pRc 13 v7) fun b8 => bn (F_Jx4a65c_get_915e3 b8 x4) fun v9 => bn (cst 9 v9) fun _ => bn (gI 9 0 v9) fun v10 => if ¬ v10 = x1 then F_X2_takeLongs_L76 (F_X2_takeLongs_L17 n) this x1 x3 x4 x5 x6 v9 (0 : Int32) else bn (gI 9 3 v9) fun v11 => F_X2_takeLongs_L76 (F_X2_takeLongs_L17 n) this x1 x3 x4 x5 x6 v9 (if v11 < x3 then v11 else x3)
set_option maxRecDepth 100000 in
theorem O_X2_takeLongs_L17 (Γ : Gam) (n : Nat) : ∀ (this : Nat) (x1 : Int32) (x3 : Int32) (x4 : Int32) (x5 : Int32) (x6 : Int32), Ok Γ mX2_takeLongs 3 (qo Γ vV) 17 [(0, va_rf (some this)), (1, .int x1), (3, .int x3), (4, .int x4), (5, .int x5), (6, .int x6)] [] (F_X2_takeLongs_L17 n this x1 x3 x4 x5 x6) := by
  induction n with
  | zero => intro this x1 x3 x4 x5 x6; exact ok_fl
  | succ n ih =>
    intro this x1 x3 x4 x5 x6
    rw [F_X2_takeLongs_L17]
    refine ok_iload (dd TX2_takeLongs_0 10 rfl) 5 rfl ?_
    refine ok_iload (dd TX2_takeLongs_0 11 rfl) 4 rfl ?_
    refine ok_icmp_ge (tgt := 125) (dd TX2_takeLongs_0 12 rfl) (by decide) ?_ ?_
    · exact ok_return (dd TX2_takeLongs_1 19 rfl) rfl
    · refine ok_iload_n (dd TX2_takeLongs_0 13 rfl) 2 rfl ?_
      refine ok_if_le (tgt := 125) (dd TX2_takeLongs_0 14 rfl) (by decide) ?_ ?_
      · exact ok_return (dd TX2_takeLongs_1 19 rfl) rfl
      · refine ok_iload (dd TX2_takeLongs_0 15 rfl) 3 rfl ?_
        refine ok_aload_n (dd TX2_takeLongs_0 16 rfl) 0 rfl ?_
        refine ok_gP fl_RX2_21 rfl (dd TX2_takeLongs_0 17 rfl) (fun v4 => ?_)
        refine ok_callVI (cn := 13) [] [.int x4] (fun b5 => C_Jx4a65c_size_8abf5 Γ b5) rfl cy_Jx4a65c_size_8abf5 ml_RX2_28 im_Jx4a65c_size_8abf5 se_Jx4a65c_size_8abf5 (by decide) (Nat.le_of_ble_eq_true rfl) rfl (dd TX2_takeLongs_0 18 rfl) (fun v6 => ?_)
        refine ok_icmp_ge (tgt := 125) (dd TX2_takeLongs_0 19 rfl) (by decide) ?_ ?_
        · exact ok_return (dd TX2_takeLongs_1 19 rfl) rfl
        · refine ok_aload_n (dd TX2_takeLongs_0 20 rfl) 0 rfl ?_
          refine ok_gP fl_RX2_21 rfl (dd TX2_takeLongs_0 21 rfl) (fun v7 => ?_)
          refine ok_iload (dd TX2_takeLongs_0 22 rfl) 3 rfl ?_
          refine ok_callVR (cn := 13) [.int x4] [] (fun b8 => C_Jx4a65c_get_915e3 Γ b8 x4) rfl cy_Jx4a65c_get_915e3 ml_RX2_38 im_Jx4a65c_get_915e3 se_Jx4a65c_get_915e3 (by decide) (Nat.le_of_ble_eq_true rfl) rfl (dd TX2_takeLongs_0 23 rfl) (fun v9 => ?_)
          refine ok_cst (cn := 9) rfl cl_RX2_33 (dd TX2_takeLongs_0 24 rfl) ?_
          refine ok_astore (lv' := [(7, va_rf v9), (0, va_rf (some this)), (1, .int x1), (3, .int x3), (4, .int x4), (5, .int x5), (6, .int x6)]) (dd TX2_takeLongs_0 25 rfl) (by decide) (by first | rfl | (simp only [List.filter, cat_rf]; rfl)) ?_
          refine ok_aload (dd TX2_takeLongs_0 26 rfl) 0 rfl ?_
          refine ok_gI fl_RX2_50 rfl (dd TX2_takeLongs_0 27 rfl) (fun v10 => ?_)
          refine ok_iload_n (dd TX2_takeLongs_0 28 rfl) 2 rfl ?_
          refine ok_icmp_ne (tgt := 75) (dd TX2_takeLongs_0 29 rfl) (by decide) ?_ ?_
          · refine ok_iconst (v := (0 : Int32)) (dd TX2_takeLongs_0 35 rfl) (by decide) ?_
            refine ok_sub [1, 2, 3, 4, 5, 6, 0] rfl ?_
            exact O_X2_takeLongs_L76 Γ (F_X2_takeLongs_L17 n) ih this x1 x3 x4 x5 x6 v9 (0 : Int32)
          · refine ok_iload_n (dd TX2_takeLongs_0 30 rfl) 3 rfl ?_
            refine ok_aload (dd TX2_takeLongs_0 31 rfl) 0 rfl ?_
            refine ok_gI fl_RX2_53 rfl (dd TX2_takeLongs_0 32 rfl) (fun v11 => ?_)
            refine ok_mmin ml_RX2_72 ms_min w_mi mc_min (by decide) (Nat.le_of_ble_eq_true rfl) (dd TX2_takeLongs_0 33 rfl) ?_
            refine ok_goto (tgt := 76) (dd TX2_takeLongs_0 34 rfl) (by decide) ?_
            refine ok_sub [1, 2, 3, 4, 5, 6, 0] rfl ?_
            exact O_X2_takeLongs_L76 Γ (F_X2_takeLongs_L17 n) ih this x1 x3 x4 x5 x6 v9 (if v11 < x3 then v11 else x3)
def F_X2_takeLongs (this : Nat) (p0 : Int32) (p1 : Int32) : M Unit := bn (gP 2 2 (some this)) fun v1 => bn (pRc 13 v1) fun b2 => bn (F_Jx4a65c_size_8abf5 b2) fun v3 => F_X2_takeLongs_L17 FU this p0 p1 (0 : Int32) v3 (0 : Int32)
set_option maxRecDepth 100000 in
theorem C_X2_takeLongs (Γ : Gam) (this : Nat) (p0 : Int32) (p1 : Int32) : Ct Γ mX2_takeLongs 3 vV [va_rf (some this), .int p0, .int p1] (F_X2_takeLongs this p0 p1) := by
  refine ct_in (lv := [(0, va_rf (some this)), (1, .int p0), (2, .int p1)]) (by decide) (by first | rfl | (simp only [lv_args, cat_rf]; rfl)) (by first | exact Nat.le_of_ble_eq_true rfl | (rw [lg_len]; simp only [List.map_cons, List.map_nil, cat_rf]; exact Nat.le_of_ble_eq_true rfl)) ?_
  unfold F_X2_takeLongs
  refine ok_iload_n (dd TX2_takeLongs_0 0 rfl) 2 rfl ?_
  refine ok_istore_n (lv' := [(3, .int p1), (0, va_rf (some this)), (1, .int p0), (2, .int p1)]) (dd TX2_takeLongs_0 1 rfl) (by decide) (by first | rfl | (simp only [List.filter, cat_rf]; rfl)) ?_
  refine ok_iconst (v := (0 : Int32)) (dd TX2_takeLongs_0 2 rfl) (by decide) ?_
  refine ok_istore (lv' := [(4, .int (0 : Int32)), (3, .int p1), (0, va_rf (some this)), (1, .int p0), (2, .int p1)]) (dd TX2_takeLongs_0 3 rfl) (by decide) (by first | rfl | (simp only [List.filter, cat_rf]; rfl)) ?_
  refine ok_aload_n (dd TX2_takeLongs_0 4 rfl) 2 rfl ?_
  refine ok_gP fl_RX2_21 rfl (dd TX2_takeLongs_0 5 rfl) (fun v1 => ?_)
  refine ok_callVI (cn := 13) [] [] (fun b2 => C_Jx4a65c_size_8abf5 Γ b2) rfl cy_Jx4a65c_size_8abf5 ml_RX2_28 im_Jx4a65c_size_8abf5 se_Jx4a65c_size_8abf5 (by decide) (Nat.le_of_ble_eq_true rfl) rfl (dd TX2_takeLongs_0 6 rfl) (fun v3 => ?_)
  refine ok_istore (lv' := [(5, .int v3), (4, .int (0 : Int32)), (3, .int p1), (0, va_rf (some this)), (1, .int p0), (2, .int p1)]) (dd TX2_takeLongs_0 7 rfl) (by decide) (by first | rfl | (simp only [List.filter, cat_rf]; rfl)) ?_
  refine ok_iconst (v := (0 : Int32)) (dd TX2_takeLongs_0 8 rfl) (by decide) ?_
  refine ok_istore (lv' := [(6, .int (0 : Int32)), (5, .int v3), (4, .int (0 : Int32)), (3, .int p1), (0, va_rf (some this)), (1, .int p0), (2, .int p1)]) (dd TX2_takeLongs_0 9 rfl) (by decide) (by first | rfl | (simp only [List.filter, cat_rf]; rfl)) ?_
  refine ok_sub [4, 5, 3, 2, 1, 0] rfl ?_
  exact O_X2_takeLongs_L17 Γ FU this p0 p1 (0 : Int32) v3 (0 : Int32)
def F_X2_firstLongOf_L2 : Nat → Nat → Int32 → Int32 → M Int32
  | 0 => fun _ _ _ => fl
  | n + 1 => fun this x1 x2 => bn (gP 2 2 (some this)) fun v1 => bn (pRc 13 v1) fun b2 => bn (F_Jx4a65c_size_8abf5 b2) fun v3 => if v3 ≤ x2 then rt (-1 : Int32) else bn (gP 2 2 (some this)) fun v4 => bn (pRc 13 v4) fun b5 => bn (F_Jx4a65c_get_915e3 b5 x2) fun v6 => bn (cst 9 v6) fun _ => bn (gI 9 0 v6) fun v7 => if ¬ v7 = x1 then F_X2_firstLongOf_L2 n this x1 (x2 + (1 : Int32)) else rt x2
set_option maxRecDepth 100000 in
theorem O_X2_firstLongOf_L2 (Γ : Gam) (n : Nat) : ∀ (this : Nat) (x1 : Int32) (x2 : Int32), Ok Γ mX2_firstLongOf 3 (qo Γ vI) 2 [(0, va_rf (some this)), (1, .int x1), (2, .int x2)] [] (F_X2_firstLongOf_L2 n this x1 x2) := by
  induction n with
  | zero => intro this x1 x2; exact ok_fl
  | succ n ih =>
    intro this x1 x2
    rw [F_X2_firstLongOf_L2]
    refine ok_iload_n (dd TX2_firstLongOf_0 2 rfl) 2 rfl ?_
    refine ok_aload_n (dd TX2_firstLongOf_0 3 rfl) 0 rfl ?_
    refine ok_gP fl_RX2_21 rfl (dd TX2_firstLongOf_0 4 rfl) (fun v1 => ?_)
    refine ok_callVI (cn := 13) [] [.int x2] (fun b2 => C_Jx4a65c_size_8abf5 Γ b2) rfl cy_Jx4a65c_size_8abf5 ml_RX2_28 im_Jx4a65c_size_8abf5 se_Jx4a65c_size_8abf5 (by decide) (Nat.le_of_ble_eq_true rfl) rfl (dd TX2_firstLongOf_0 5 rfl) (fun v3 => ?_)
    refine ok_icmp_ge (tgt := 39) (dd TX2_firstLongOf_0 6 rfl) (by decide) ?_ ?_
    · refine ok_iconst (v := (-1 : Int32)) (dd TX2_firstLongOf_0 19 rfl) (by decide) ?_
      exact ok_ireturn (dd TX2_firstLongOf_0 20 rfl) rfl
    · refine ok_aload_n (dd TX2_firstLongOf_0 7 rfl) 0 rfl ?_
      refine ok_gP fl_RX2_21 rfl (dd TX2_firstLongOf_0 8 rfl) (fun v4 => ?_)
      refine ok_iload_n (dd TX2_firstLongOf_0 9 rfl) 2 rfl ?_
      refine ok_callVR (cn := 13) [.int x2] [] (fun b5 => C_Jx4a65c_get_915e3 Γ b5 x2) rfl cy_Jx4a65c_get_915e3 ml_RX2_38 im_Jx4a65c_get_915e3 se_Jx4a65c_get_915e3 (by decide) (Nat.le_of_ble_eq_true rfl) rfl (dd TX2_firstLongOf_0 10 rfl) (fun v6 => ?_)
      refine ok_cst (cn := 9) rfl cl_RX2_33 (dd TX2_firstLongOf_0 11 rfl) ?_
      refine ok_gI fl_RX2_50 rfl (dd TX2_firstLongOf_0 12 rfl) (fun v7 => ?_)
      refine ok_iload_n (dd TX2_firstLongOf_0 13 rfl) 1 rfl ?_
      refine ok_icmp_ne (tgt := 33) (dd TX2_firstLongOf_0 14 rfl) (by decide) ?_ ?_
      · refine ok_iinc (lv' := [(2, .int (x2 + (1 : Int32))), (0, va_rf (some this)), (1, .int x1)]) (dd TX2_firstLongOf_0 17 rfl) 2 rfl (congrArg (fun q : Int32 => x2 + q) (show Int32.ofInt (1) = (1 : Int32) from by decide)) (by decide) (by first | rfl | (simp only [List.filter, cat_rf]; rfl)) ?_
        refine ok_goto (tgt := 2) (dd TX2_firstLongOf_0 18 rfl) (by decide) ?_
        refine ok_sub [1, 2, 0] rfl ?_
        exact ih this x1 (x2 + (1 : Int32))
      · refine ok_iload_n (dd TX2_firstLongOf_0 15 rfl) 2 rfl ?_
        exact ok_ireturn (dd TX2_firstLongOf_0 16 rfl) rfl
def F_X2_firstLongOf (this : Nat) (p0 : Int32) : M Int32 := F_X2_firstLongOf_L2 FU this p0 (0 : Int32)
set_option maxRecDepth 100000 in
theorem C_X2_firstLongOf (Γ : Gam) (this : Nat) (p0 : Int32) : Ct Γ mX2_firstLongOf 3 vI [va_rf (some this), .int p0] (F_X2_firstLongOf this p0) := by
  refine ct_in (lv := [(0, va_rf (some this)), (1, .int p0)]) (by decide) (by first | rfl | (simp only [lv_args, cat_rf]; rfl)) (by first | exact Nat.le_of_ble_eq_true rfl | (rw [lg_len]; simp only [List.map_cons, List.map_nil, cat_rf]; exact Nat.le_of_ble_eq_true rfl)) ?_
  unfold F_X2_firstLongOf
  refine ok_iconst (v := (0 : Int32)) (dd TX2_firstLongOf_0 0 rfl) (by decide) ?_
  refine ok_istore_n (lv' := [(2, .int (0 : Int32)), (0, va_rf (some this)), (1, .int p0)]) (dd TX2_firstLongOf_0 1 rfl) (by decide) (by first | rfl | (simp only [List.filter, cat_rf]; rfl)) ?_
  refine ok_sub [1, 2, 0] rfl ?_
  exact O_X2_firstLongOf_L2 Γ FU this p0 (0 : Int32)
def F_X3_init (this : Nat) (p0 : Int32) (p1 : Int32) (p2 : Int32) (p3 : Int32) : M Unit := bn (wI 3 5 (some this) (1 : Int32)) fun _ => bn (wI 3 0 (some this) p0) fun _ => bn (wI 3 1 (some this) p1) fun _ => bn (wI 3 2 (some this) p2) fun _ => bn (wI 3 3 (some this) p3) fun _ => bn (wI 3 6 (some this) ((1 : Int32) <<< (p3 &&& 31))) fun _ => rt ()
set_option maxRecDepth 100000 in
theorem C_X3_init (Γ : Gam) (this : Nat) (p0 : Int32) (p1 : Int32) (p2 : Int32) (p3 : Int32) : Ct Γ mX3_init 1 vV [va_rf (some this), .int p0, .int p1, .int p2, .int p3] (F_X3_init this p0 p1 p2 p3) := by
  refine ct_in (lv := [(0, va_rf (some this)), (1, .int p0), (2, .int p1), (3, .int p2), (4, .int p3)]) (by decide) (by first | rfl | (simp only [lv_args, cat_rf]; rfl)) (by first | exact Nat.le_of_ble_eq_true rfl | (rw [lg_len]; simp only [List.map_cons, List.map_nil, cat_rf]; exact Nat.le_of_ble_eq_true rfl)) ?_
  unfold F_X3_init
  refine ok_aload_n (dd TX3_init_0 0 rfl) 0 rfl ?_
  refine ok_objInit ml_RX3_3 w_oi w_oc ⟨_, rfl⟩ (by decide) (Nat.le_of_ble_eq_true rfl) (dd TX3_init_0 1 rfl) ?_
  refine ok_aload_n (dd TX3_init_0 2 rfl) 0 rfl ?_
  refine ok_iconst (v := (1 : Int32)) (dd TX3_init_0 3 rfl) (by decide) ?_
  refine ok_wI fl_RX3_9 (Or.inl rfl) (tyX3_ok 5 (by decide)) (by decide) rfl (dd TX3_init_0 4 rfl) ?_
  refine ok_aload_n (dd TX3_init_0 5 rfl) 0 rfl ?_
  refine ok_iload_n (dd TX3_init_0 6 rfl) 1 rfl ?_
  refine ok_wI fl_RX3_15 (Or.inr ⟨rfl, rfl, rfl⟩) (tyX3_ok 0 (by decide)) (by decide) rfl (dd TX3_init_0 7 rfl) ?_
  refine ok_aload_n (dd TX3_init_0 8 rfl) 0 rfl ?_
  refine ok_iload_n (dd TX3_init_0 9 rfl) 2 rfl ?_
  refine ok_wI fl_RX3_18 (Or.inr ⟨rfl, rfl, rfl⟩) (tyX3_ok 1 (by decide)) (by decide) rfl (dd TX3_init_0 10 rfl) ?_
  refine ok_aload_n (dd TX3_init_0 11 rfl) 0 rfl ?_
  refine ok_iload_n (dd TX3_init_0 12 rfl) 3 rfl ?_
  refine ok_wI fl_RX3_21 (Or.inr ⟨rfl, rfl, rfl⟩) (tyX3_ok 2 (by decide)) (by decide) rfl (dd TX3_init_0 13 rfl) ?_
  refine ok_aload_n (dd TX3_init_0 14 rfl) 0 rfl ?_
  refine ok_iload (dd TX3_init_0 15 rfl) 4 rfl ?_
  refine ok_wI fl_RX3_24 (Or.inl rfl) (tyX3_ok 3 (by decide)) (by decide) rfl (dd TX3_init_0 16 rfl) ?_
  refine ok_aload_n (dd TX3_init_0 17 rfl) 0 rfl ?_
  refine ok_iconst (v := (1 : Int32)) (dd TX3_init_0 18 rfl) (by decide) ?_
  refine ok_iload (dd TX3_init_0 19 rfl) 4 rfl ?_
  refine ok_ishl (dd TX3_init_0 20 rfl) ?_
  refine ok_wI fl_RX3_27 (Or.inl rfl) (tyX3_ok 6 (by decide)) (by decide) rfl (dd TX3_init_0 21 rfl) ?_
  exact ok_return (dd TX3_init_0 22 rfl) rfl
def F_X3_wasWith (this : Nat) (p0 : Int32) : M Int32 := bn (gI 3 6 (some this)) fun v1 => if ¬ ((v1 >>> (p0 &&& 31)) &&& (1 : Int32)) = (1 : Int32) then rz (0 : Int32) else rz (1 : Int32)
set_option maxRecDepth 100000 in
theorem C_X3_wasWith (Γ : Gam) (this : Nat) (p0 : Int32) : Ct Γ mX3_wasWith 0 vI [va_rf (some this), .int p0] (F_X3_wasWith this p0) := by
  refine ct_in (lv := [(0, va_rf (some this)), (1, .int p0)]) (by decide) (by first | rfl | (simp only [lv_args, cat_rf]; rfl)) (by first | exact Nat.le_of_ble_eq_true rfl | (rw [lg_len]; simp only [List.map_cons, List.map_nil, cat_rf]; exact Nat.le_of_ble_eq_true rfl)) ?_
  unfold F_X3_wasWith
  refine ok_aload_n (dd TX3_wasWith_0 0 rfl) 0 rfl ?_
  refine ok_gI fl_RX3_27 rfl (dd TX3_wasWith_0 1 rfl) (fun v1 => ?_)
  refine ok_iload_n (dd TX3_wasWith_0 2 rfl) 1 rfl ?_
  refine ok_ishr (dd TX3_wasWith_0 3 rfl) ?_
  refine ok_iconst (v := (1 : Int32)) (dd TX3_wasWith_0 4 rfl) (by decide) ?_
  refine ok_iand (dd TX3_wasWith_0 5 rfl) ?_
  refine ok_iconst (v := (1 : Int32)) (dd TX3_wasWith_0 6 rfl) (by decide) ?_
  refine ok_icmp_ne (tgt := 16) (dd TX3_wasWith_0 7 rfl) (by decide) ?_ ?_
  · refine ok_iconst (v := (0 : Int32)) (dd TX3_wasWith_0 10 rfl) (by decide) ?_
    exact ok_zreturn (dd TX3_wasWith_0 11 rfl) rfl
  · refine ok_iconst (v := (1 : Int32)) (dd TX3_wasWith_0 8 rfl) (by decide) ?_
    refine ok_goto (tgt := 17) (dd TX3_wasWith_0 9 rfl) (by decide) ?_
    exact ok_zreturn (dd TX3_wasWith_0 11 rfl) rfl
