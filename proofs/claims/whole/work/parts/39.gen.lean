def F_X12_night_L291 : Nat → Nat → Int32 → Int32 → M Int32
  | 0 => fun _ _ _ => fl
  | n + 1 => fun this x1 x2 => if (72 : Int32) ≤ x2 then bn (gI 12 24 (some this)) fun v31 => bn (wI 12 24 (some this) (v31 + (1 : Int32))) fun _ => rt x1 else bn (gP 12 27 (some this)) fun v32 => bn (gI 12 24 (some this)) fun v33 => bn (gP 12 14 (some this)) fun v34 => bn (lI 232 v34 x2) fun v35 => bn (stI 312 v32 (((72 : Int32) * v33) + x2) v35) fun _ => bn (gP 12 28 (some this)) fun v36 => bn (gI 12 24 (some this)) fun v37 => bn (gP 12 15 (some this)) fun v38 => bn (lL 241 v38 x2) fun v39 => bn (stL 321 v36 (((72 : Int32) * v37) + x2) v39) fun _ => F_X12_night_L291 n this x1 (x2 + (1 : Int32))
set_option maxRecDepth 100000 in
theorem O_X12_night_L291 (Γ : Gam) (n : Nat) : ∀ (this : Nat) (x1 : Int32) (x2 : Int32), Ok Γ mX12_night 103 (qo Γ vI) 291 [(0, va_rf (some this)), (1, .int x1), (2, .int x2)] [] (F_X12_night_L291 n this x1 x2) := by
  induction n with
  | zero => intro this x1 x2; exact ok_fl
  | succ n ih =>
    intro this x1 x2
    rw [F_X12_night_L291]
    refine ok_iload_n (dd TX12_night_4 8 rfl) 2 rfl ?_
    refine ok_bipush (v := (72 : Int32)) (dd TX12_night_4 9 rfl) (by decide) ?_
    refine ok_icmp_ge (tgt := 343) (dd TX12_night_4 10 rfl) (by decide) ?_ ?_
    · refine ok_aload_n (dd TX12_night_4 39 rfl) 0 rfl ?_
      refine ok_dup (dd TX12_night_5 0 rfl) (by first | rfl | exact cat_rf _) ?_
      refine ok_gI fl_RX12_238 rfl (dd TX12_night_5 1 rfl) (fun v31 => ?_)
      refine ok_iconst (v := (1 : Int32)) (dd TX12_night_5 2 rfl) (by decide) ?_
      refine ok_iadd (dd TX12_night_5 3 rfl) ?_
      refine ok_wI fl_RX12_238 (Or.inl rfl) (tyX12_ok 24 (by decide)) (by decide) rfl (dd TX12_night_5 4 rfl) ?_
      refine ok_iload_n (dd TX12_night_5 5 rfl) 1 rfl ?_
      exact ok_ireturn (dd TX12_night_5 6 rfl) rfl
    · refine ok_aload_n (dd TX12_night_4 11 rfl) 0 rfl ?_
      refine ok_gP fl_RX12_69 rfl (dd TX12_night_4 12 rfl) (fun v32 => ?_)
      refine ok_bipush (v := (72 : Int32)) (dd TX12_night_4 13 rfl) (by decide) ?_
      refine ok_aload_n (dd TX12_night_4 14 rfl) 0 rfl ?_
      refine ok_gI fl_RX12_238 rfl (dd TX12_night_4 15 rfl) (fun v33 => ?_)
      refine ok_imul (dd TX12_night_4 16 rfl) ?_
      refine ok_iload_n (dd TX12_night_4 17 rfl) 2 rfl ?_
      refine ok_iadd (dd TX12_night_4 18 rfl) ?_
      refine ok_aload_n (dd TX12_night_4 19 rfl) 0 rfl ?_
      refine ok_gP fl_RX12_39 rfl (dd TX12_night_4 20 rfl) (fun v34 => ?_)
      refine ok_iload_n (dd TX12_night_4 21 rfl) 2 rfl ?_
      refine ok_lI (kd := 232) (by decide) rfl (dd TX12_night_4 22 rfl) (fun v35 => ?_)
      refine ok_stI (kd := 312) (by decide) rfl (dd TX12_night_4 23 rfl) ?_
      refine ok_aload_n (dd TX12_night_4 24 rfl) 0 rfl ?_
      refine ok_gP fl_RX12_72 rfl (dd TX12_night_4 25 rfl) (fun v36 => ?_)
      refine ok_bipush (v := (72 : Int32)) (dd TX12_night_4 26 rfl) (by decide) ?_
      refine ok_aload_n (dd TX12_night_4 27 rfl) 0 rfl ?_
      refine ok_gI fl_RX12_238 rfl (dd TX12_night_4 28 rfl) (fun v37 => ?_)
      refine ok_imul (dd TX12_night_4 29 rfl) ?_
      refine ok_iload_n (dd TX12_night_4 30 rfl) 2 rfl ?_
      refine ok_iadd (dd TX12_night_4 31 rfl) ?_
      refine ok_aload_n (dd TX12_night_4 32 rfl) 0 rfl ?_
      refine ok_gP fl_RX12_42 rfl (dd TX12_night_4 33 rfl) (fun v38 => ?_)
      refine ok_iload_n (dd TX12_night_4 34 rfl) 2 rfl ?_
      refine ok_lL (kd := 241) (by decide) rfl (dd TX12_night_4 35 rfl) (fun v39 => ?_)
      refine ok_stL (kd := 321) (by decide) rfl (dd TX12_night_4 36 rfl) ?_
      refine ok_iinc (lv' := [(2, .int (x2 + (1 : Int32))), (0, va_rf (some this)), (1, .int x1)]) (dd TX12_night_4 37 rfl) 2 rfl (congrArg (fun q : Int32 => x2 + q) (show Int32.ofInt (1) = (1 : Int32) from by decide)) (by decide) (by first | rfl | (simp only [List.filter, cat_rf]; rfl)) ?_
      refine ok_goto (tgt := 291) (dd TX12_night_4 38 rfl) (by decide) ?_
      refine ok_sub [1, 2, 0] rfl ?_
      exact ih this x1 (x2 + (1 : Int32))
def F_X12_night_L257 : Nat → Nat → Int32 → Int32 → M Int32
  | 0 => fun _ _ _ => fl
  | n + 1 => fun this x1 x2 => if (12 : Int32) ≤ x2 then F_X12_night_L291 FU this x1 (0 : Int32) else bn (gP 12 26 (some this)) fun v24 => bn (gI 12 24 (some this)) fun v25 => bn (gP 12 11 (some this)) fun v26 => bn (lL 209 v26 x2) fun v27 => bn (stL 305 v24 (((12 : Int32) * v25) + x2) v27) fun _ => F_X12_night_L257 n this x1 (x2 + (1 : Int32))
set_option maxRecDepth 100000 in
theorem O_X12_night_L257 (Γ : Gam) (n : Nat) : ∀ (this : Nat) (x1 : Int32) (x2 : Int32), Ok Γ mX12_night 103 (qo Γ vI) 257 [(0, va_rf (some this)), (1, .int x1), (2, .int x2)] [] (F_X12_night_L257 n this x1 x2) := by
  induction n with
  | zero => intro this x1 x2; exact ok_fl
  | succ n ih =>
    intro this x1 x2
    rw [F_X12_night_L257]
    refine ok_iload_n (dd TX12_night_3 28 rfl) 2 rfl ?_
    refine ok_bipush (v := (12 : Int32)) (dd TX12_night_3 29 rfl) (by decide) ?_
    refine ok_icmp_ge (tgt := 289) (dd TX12_night_3 30 rfl) (by decide) ?_ ?_
    · refine ok_iconst (v := (0 : Int32)) (dd TX12_night_4 6 rfl) (by decide) ?_
      refine ok_istore_n (lv' := [(2, .int (0 : Int32)), (0, va_rf (some this)), (1, .int x1)]) (dd TX12_night_4 7 rfl) (by decide) (by first | rfl | (simp only [List.filter, cat_rf]; rfl)) ?_
      refine ok_sub [1, 2, 0] rfl ?_
      exact O_X12_night_L291 Γ FU this x1 (0 : Int32)
    · refine ok_aload_n (dd TX12_night_3 31 rfl) 0 rfl ?_
      refine ok_gP fl_RX12_66 rfl (dd TX12_night_3 32 rfl) (fun v24 => ?_)
      refine ok_bipush (v := (12 : Int32)) (dd TX12_night_3 33 rfl) (by decide) ?_
      refine ok_aload_n (dd TX12_night_3 34 rfl) 0 rfl ?_
      refine ok_gI fl_RX12_238 rfl (dd TX12_night_3 35 rfl) (fun v25 => ?_)
      refine ok_imul (dd TX12_night_3 36 rfl) ?_
      refine ok_iload_n (dd TX12_night_3 37 rfl) 2 rfl ?_
      refine ok_iadd (dd TX12_night_3 38 rfl) ?_
      refine ok_aload_n (dd TX12_night_3 39 rfl) 0 rfl ?_
      refine ok_gP fl_RX12_28 rfl (dd TX12_night_4 0 rfl) (fun v26 => ?_)
      refine ok_iload_n (dd TX12_night_4 1 rfl) 2 rfl ?_
      refine ok_lL (kd := 209) (by decide) rfl (dd TX12_night_4 2 rfl) (fun v27 => ?_)
      refine ok_stL (kd := 305) (by decide) rfl (dd TX12_night_4 3 rfl) ?_
      refine ok_iinc (lv' := [(2, .int (x2 + (1 : Int32))), (0, va_rf (some this)), (1, .int x1)]) (dd TX12_night_4 4 rfl) 2 rfl (congrArg (fun q : Int32 => x2 + q) (show Int32.ofInt (1) = (1 : Int32) from by decide)) (by decide) (by first | rfl | (simp only [List.filter, cat_rf]; rfl)) ?_
      refine ok_goto (tgt := 257) (dd TX12_night_4 5 rfl) (by decide) ?_
      refine ok_sub [1, 2, 0] rfl ?_
      exact ih this x1 (x2 + (1 : Int32))
def F_X12_night_L249 (k149 : Nat → Int32 → Int32 → M Int32) (this : Nat) (x1 : Int32) (x2 : Int32) : M Int32 := k149 this x1 (x2 + (1 : Int32))
set_option maxRecDepth 100000 in
theorem O_X12_night_L249 (Γ : Gam) (k149 : Nat → Int32 → Int32 → M Int32) (hk149 : ∀ (z0 : Nat) (z1 : Int32) (z2 : Int32), Ok Γ mX12_night 103 (qo Γ vI) 149 [(0, va_rf (some z0)), (1, .int z1), (2, .int z2)] [] (k149 z0 z1 z2)) (this : Nat) (x1 : Int32) (x2 : Int32) : Ok Γ mX12_night 103 (qo Γ vI) 249 [(0, va_rf (some this)), (1, .int x1), (2, .int x2)] [] (F_X12_night_L249 k149 this x1 x2) := by
  unfold F_X12_night_L249
  refine ok_iinc (lv' := [(2, .int (x2 + (1 : Int32))), (0, va_rf (some this)), (1, .int x1)]) (dd TX12_night_3 24 rfl) 2 rfl (congrArg (fun q : Int32 => x2 + q) (show Int32.ofInt (1) = (1 : Int32) from by decide)) (by decide) (by first | rfl | (simp only [List.filter, cat_rf]; rfl)) ?_
  refine ok_goto (tgt := 149) (dd TX12_night_3 25 rfl) (by decide) ?_
  refine ok_sub [1, 2, 0] rfl ?_
  exact hk149 this x1 (x2 + (1 : Int32))
def F_X12_night_L248 (k149 : Nat → Int32 → Int32 → M Int32) (this : Nat) (x1 : Int32) (x2 : Int32) (y0 : Int32) (y1 : Int32) (y2 : Option Nat) : M Int32 := bn (stZ 218 y2 y1 y0) fun _ => F_X12_night_L249 k149 this x1 x2
set_option maxRecDepth 100000 in
theorem O_X12_night_L248 (Γ : Gam) (k149 : Nat → Int32 → Int32 → M Int32) (hk149 : ∀ (z0 : Nat) (z1 : Int32) (z2 : Int32), Ok Γ mX12_night 103 (qo Γ vI) 149 [(0, va_rf (some z0)), (1, .int z1), (2, .int z2)] [] (k149 z0 z1 z2)) (this : Nat) (x1 : Int32) (x2 : Int32) (y0 : Int32) (y1 : Int32) (y2 : Option Nat) : Ok Γ mX12_night 103 (qo Γ vI) 248 [(0, va_rf (some this)), (1, .int x1), (2, .int x2)] [.int y0, .int y1, va_rf y2] (F_X12_night_L248 k149 this x1 x2 y0 y1 y2) := by
  unfold F_X12_night_L248
  refine ok_stZ (kd := 218) (by decide) rfl (dd TX12_night_3 23 rfl) ?_
  exact O_X12_night_L249 Γ k149 hk149 this x1 x2
def F_X12_night_L247 (k149 : Nat → Int32 → Int32 → M Int32) (this : Nat) (x1 : Int32) (x2 : Int32) (y0 : Int32) (y1 : Option Nat) : M Int32 := F_X12_night_L248 k149 this x1 x2 (0 : Int32) y0 y1
set_option maxRecDepth 100000 in
theorem O_X12_night_L247 (Γ : Gam) (k149 : Nat → Int32 → Int32 → M Int32) (hk149 : ∀ (z0 : Nat) (z1 : Int32) (z2 : Int32), Ok Γ mX12_night 103 (qo Γ vI) 149 [(0, va_rf (some z0)), (1, .int z1), (2, .int z2)] [] (k149 z0 z1 z2)) (this : Nat) (x1 : Int32) (x2 : Int32) (y0 : Int32) (y1 : Option Nat) : Ok Γ mX12_night 103 (qo Γ vI) 247 [(0, va_rf (some this)), (1, .int x1), (2, .int x2)] [.int y0, va_rf y1] (F_X12_night_L247 k149 this x1 x2 y0 y1) := by
  unfold F_X12_night_L247
  refine ok_iconst (v := (0 : Int32)) (dd TX12_night_3 22 rfl) (by decide) ?_
  exact O_X12_night_L248 Γ k149 hk149 this x1 x2 (0 : Int32) y0 y1
def F_X12_night_L218 (k149 : Nat → Int32 → Int32 → M Int32) (this : Nat) (x1 : Int32) (x2 : Int32) (x3 : Int64) : M Int32 := bn (gP 12 12 (some this)) fun v40 => bn (gP 12 12 (some this)) fun v41 => bn (lI 218 v41 x2) fun v42 => if ¬ v42 = 0 then F_X12_night_L247 k149 this x1 x2 x2 v40 else bn (pRc 12 (some this)) fun b43 => bn (F_X12_need b43 x2 (2 : Int32)) fun v44 => if 0 ≤ (lg_cmp x3 v44) then F_X12_night_L247 k149 this x1 x2 x2 v40 else F_X12_night_L248 k149 this x1 x2 (1 : Int32) x2 v40
set_option maxRecDepth 100000 in
theorem O_X12_night_L218 (Γ : Gam) (k149 : Nat → Int32 → Int32 → M Int32) (hk149 : ∀ (z0 : Nat) (z1 : Int32) (z2 : Int32), Ok Γ mX12_night 103 (qo Γ vI) 149 [(0, va_rf (some z0)), (1, .int z1), (2, .int z2)] [] (k149 z0 z1 z2)) (this : Nat) (x1 : Int32) (x2 : Int32) (x3 : Int64) : Ok Γ mX12_night 103 (qo Γ vI) 218 [(0, va_rf (some this)), (1, .int x1), (2, .int x2), (3, .long x3)] [] (F_X12_night_L218 k149 this x1 x2 x3) := by
  unfold F_X12_night_L218
  refine ok_aload_n (dd TX12_night_3 5 rfl) 0 rfl ?_
  refine ok_gP fl_RX12_32 rfl (dd TX12_night_3 6 rfl) (fun v40 => ?_)
  refine ok_iload_n (dd TX12_night_3 7 rfl) 2 rfl ?_
  refine ok_aload_n (dd TX12_night_3 8 rfl) 0 rfl ?_
  refine ok_gP fl_RX12_32 rfl (dd TX12_night_3 9 rfl) (fun v41 => ?_)
  refine ok_iload_n (dd TX12_night_3 10 rfl) 2 rfl ?_
  refine ok_lZ (kd := 218) (by decide) rfl (dd TX12_night_3 11 rfl) (fun v42 => ?_)
  refine ok_if_ne (tgt := 247) (dd TX12_night_3 12 rfl) (by decide) ?_ ?_
  · refine ok_sub [0, 1, 2] rfl ?_
    exact O_X12_night_L247 Γ k149 hk149 this x1 x2 x2 v40
  · refine ok_lload_n (dd TX12_night_3 13 rfl) 3 rfl ?_
    refine ok_aload_n (dd TX12_night_3 14 rfl) 0 rfl ?_
    refine ok_iload_n (dd TX12_night_3 15 rfl) 2 rfl ?_
    refine ok_iconst (v := (2 : Int32)) (dd TX12_night_3 16 rfl) (by decide) ?_
    refine ok_callVL (cn := 12) [.int x2, .int (2 : Int32)] [.long x3, .int x2, va_rf v40] (fun b43 => C_X12_need Γ b43 x2 (2 : Int32)) rfl cy_X12_need ml_RX12_296 im_X12_need se_X12_need (by decide) (Nat.le_of_ble_eq_true rfl) rfl (dd TX12_night_3 17 rfl) (fun v44 => ?_)
    refine ok_lcmp (dd TX12_night_3 18 rfl) ?_
    refine ok_if_ge (tgt := 247) (dd TX12_night_3 19 rfl) (by decide) ?_ ?_
    · refine ok_sub [0, 1, 2] rfl ?_
      exact O_X12_night_L247 Γ k149 hk149 this x1 x2 x2 v40
    · refine ok_iconst (v := (1 : Int32)) (dd TX12_night_3 20 rfl) (by decide) ?_
      refine ok_goto (tgt := 248) (dd TX12_night_3 21 rfl) (by decide) ?_
      refine ok_sub [0, 1, 2] rfl ?_
      exact O_X12_night_L248 Γ k149 hk149 this x1 x2 (1 : Int32) x2 v40
def F_X12_night_L191 (k149 : Nat → Int32 → Int32 → M Int32) (this : Nat) (x1 : Int32) (x2 : Int32) (x3 : Int64) (y0 : Int32) : M Int32 := bn (gP 12 12 (some this)) fun v28 => bn (lI 218 v28 x2) fun v29 => if v29 = 0 then F_X12_night_L218 k149 this x1 x2 x3 else if y0 = 0 then F_X12_night_L218 k149 this x1 x2 x3 else bn (pRc 12 (some this)) fun b30 => bn (F_X12_fail b30 x2) fun _ => F_X12_night_L249 k149 this (x1 + (1 : Int32)) x2
set_option maxRecDepth 100000 in
theorem O_X12_night_L191 (Γ : Gam) (k149 : Nat → Int32 → Int32 → M Int32) (hk149 : ∀ (z0 : Nat) (z1 : Int32) (z2 : Int32), Ok Γ mX12_night 103 (qo Γ vI) 149 [(0, va_rf (some z0)), (1, .int z1), (2, .int z2)] [] (k149 z0 z1 z2)) (this : Nat) (x1 : Int32) (x2 : Int32) (x3 : Int64) (y0 : Int32) : Ok Γ mX12_night 103 (qo Γ vI) 191 [(0, va_rf (some this)), (1, .int x1), (2, .int x2), (3, .long x3)] [.int y0] (F_X12_night_L191 k149 this x1 x2 x3 y0) := by
  unfold F_X12_night_L191
  refine ok_istore (lv' := [(5, .int y0), (0, va_rf (some this)), (1, .int x1), (2, .int x2), (3, .long x3)]) (dd TX12_night_2 32 rfl) (by decide) (by first | rfl | (simp only [List.filter, cat_rf]; rfl)) ?_
  refine ok_aload_n (dd TX12_night_2 33 rfl) 1 rfl ?_
  refine ok_gP fl_RX12_32 rfl (dd TX12_night_2 34 rfl) (fun v28 => ?_)
  refine ok_iload_n (dd TX12_night_2 35 rfl) 3 rfl ?_
  refine ok_lZ (kd := 218) (by decide) rfl (dd TX12_night_2 36 rfl) (fun v29 => ?_)
  refine ok_if_eq (tgt := 218) (dd TX12_night_2 37 rfl) (by decide) ?_ ?_
  · refine ok_sub [1, 2, 3, 4] rfl ?_
    exact O_X12_night_L218 Γ k149 hk149 this x1 x2 x3
  · refine ok_iload (dd TX12_night_2 38 rfl) 0 rfl ?_
    refine ok_if_eq (tgt := 218) (dd TX12_night_2 39 rfl) (by decide) ?_ ?_
    · refine ok_sub [1, 2, 3, 4] rfl ?_
      exact O_X12_night_L218 Γ k149 hk149 this x1 x2 x3
    · refine ok_aload_n (dd TX12_night_3 0 rfl) 1 rfl ?_
      refine ok_iload_n (dd TX12_night_3 1 rfl) 3 rfl ?_
      refine ok_callVV (cn := 12) [.int x2] [] (fun b30 => C_X12_fail Γ b30 x2) rfl cy_X12_fail ml_RX12_300 im_X12_fail se_X12_fail (by decide) (Nat.le_of_ble_eq_true rfl) rfl (dd TX12_night_3 2 rfl) ?_
      refine ok_iinc (lv' := [(1, .int (x1 + (1 : Int32))), (5, .int y0), (0, va_rf (some this)), (2, .int x2), (3, .long x3)]) (dd TX12_night_3 3 rfl) 2 rfl (congrArg (fun q : Int32 => x1 + q) (show Int32.ofInt (1) = (1 : Int32) from by decide)) (by decide) (by first | rfl | (simp only [List.filter, cat_rf]; rfl)) ?_
      refine ok_goto (tgt := 249) (dd TX12_night_3 4 rfl) (by decide) ?_
      refine ok_sub [2, 0, 3] rfl ?_
      exact O_X12_night_L249 Γ k149 hk149 this (x1 + (1 : Int32)) x2
def F_X12_night_L149 : Nat → Nat → Int32 → Int32 → M Int32
  | 0 => fun _ _ _ => fl
  | n + 1 => fun this x1 x2 => bn (gI 12 10 (some this)) fun v4 => if v4 ≤ x2 then F_X12_night_L257 FU this x1 (0 : Int32) else bn (gP 12 13 (some this)) fun v5 => bn (lI 226 v5 x2) fun v6 => if v6 = 0 then bn (pRc 12 (some this)) fun b7 => bn (F_X12_equityOf b7 x2) fun v8 => bn (pRc 12 (some this)) fun b9 => bn (F_X12_need b9 x2 (1 : Int32)) fun v10 => if 0 ≤ (lg_cmp v8 v10) then F_X12_night_L191 (F_X12_night_L149 n) this x1 x2 v8 (0 : Int32) else F_X12_night_L191 (F_X12_night_L149 n) this x1 x2 v8 (1 : Int32) else F_X12_night_L249 (F_X12_night_L149 n) this x1 x2
set_option maxRecDepth 100000 in
theorem O_X12_night_L149 (Γ : Gam) (n : Nat) : ∀ (this : Nat) (x1 : Int32) (x2 : Int32), Ok Γ mX12_night 103 (qo Γ vI) 149 [(0, va_rf (some this)), (1, .int x1), (2, .int x2)] [] (F_X12_night_L149 n this x1 x2) := by
  induction n with
  | zero => intro this x1 x2; exact ok_fl
  | succ n ih =>
    intro this x1 x2
    rw [F_X12_night_L149]
    refine ok_iload_n (dd TX12_night_2 8 rfl) 2 rfl ?_
    refine ok_aload_n (dd TX12_night_2 9 rfl) 0 rfl ?_
    refine ok_gI fl_RX12_94 rfl (dd TX12_night_2 10 rfl) (fun v4 => ?_)
    refine ok_icmp_ge (tgt := 255) (dd TX12_night_2 11 rfl) (by decide) ?_ ?_
    · refine ok_iconst (v := (0 : Int32)) (dd TX12_night_3 26 rfl) (by decide) ?_
      refine ok_istore_n (lv' := [(2, .int (0 : Int32)), (0, va_rf (some this)), (1, .int x1)]) (dd TX12_night_3 27 rfl) (by decide) (by first | rfl | (simp only [List.filter, cat_rf]; rfl)) ?_
      refine ok_sub [1, 2, 0] rfl ?_
      exact O_X12_night_L257 Γ FU this x1 (0 : Int32)
    · refine ok_aload_n (dd TX12_night_2 12 rfl) 0 rfl ?_
      refine ok_gP fl_RX12_36 rfl (dd TX12_night_2 13 rfl) (fun v5 => ?_)
      refine ok_iload_n (dd TX12_night_2 14 rfl) 2 rfl ?_
      refine ok_lZ (kd := 226) (by decide) rfl (dd TX12_night_2 15 rfl) (fun v6 => ?_)
      refine ok_if_eq (tgt := 169) (dd TX12_night_2 16 rfl) (by decide) ?_ ?_
      · refine ok_aload_n (dd TX12_night_2 18 rfl) 0 rfl ?_
        refine ok_iload_n (dd TX12_night_2 19 rfl) 2 rfl ?_
        refine ok_callVL (cn := 12) [.int x2] [] (fun b7 => C_X12_equityOf Γ b7 x2) rfl cy_X12_equityOf ml_RX12_292 im_X12_equityOf se_X12_equityOf (by decide) (Nat.le_of_ble_eq_true rfl) rfl (dd TX12_night_2 20 rfl) (fun v8 => ?_)
        refine ok_lstore_n (lv' := [(3, .long v8), (0, va_rf (some this)), (1, .int x1), (2, .int x2)]) (dd TX12_night_2 21 rfl) (by decide) (by first | rfl | (simp only [List.filter, cat_rf]; rfl)) ?_
        refine ok_lload_n (dd TX12_night_2 22 rfl) 0 rfl ?_
        refine ok_aload_n (dd TX12_night_2 23 rfl) 1 rfl ?_
        refine ok_iload_n (dd TX12_night_2 24 rfl) 3 rfl ?_
        refine ok_iconst (v := (1 : Int32)) (dd TX12_night_2 25 rfl) (by decide) ?_
        refine ok_callVL (cn := 12) [.int x2, .int (1 : Int32)] [.long v8] (fun b9 => C_X12_need Γ b9 x2 (1 : Int32)) rfl cy_X12_need ml_RX12_296 im_X12_need se_X12_need (by decide) (Nat.le_of_ble_eq_true rfl) rfl (dd TX12_night_2 26 rfl) (fun v10 => ?_)
        refine ok_lcmp (dd TX12_night_2 27 rfl) ?_
        refine ok_if_ge (tgt := 190) (dd TX12_night_2 28 rfl) (by decide) ?_ ?_
        · refine ok_iconst (v := (0 : Int32)) (dd TX12_night_2 31 rfl) (by decide) ?_
          refine ok_sub [1, 2, 3, 0] rfl ?_
          exact O_X12_night_L191 Γ (F_X12_night_L149 n) ih this x1 x2 v8 (0 : Int32)
        · refine ok_iconst (v := (1 : Int32)) (dd TX12_night_2 29 rfl) (by decide) ?_
          refine ok_goto (tgt := 191) (dd TX12_night_2 30 rfl) (by decide) ?_
          refine ok_sub [1, 2, 3, 0] rfl ?_
          exact O_X12_night_L191 Γ (F_X12_night_L149 n) ih this x1 x2 v8 (1 : Int32)
      · refine ok_goto (tgt := 249) (dd TX12_night_2 17 rfl) (by decide) ?_
        exact O_X12_night_L249 Γ (F_X12_night_L149 n) ih this x1 x2
def F_X12_night_L138 (k24 : Nat → Int32 → M Int32) (this : Nat) (x1 : Int32) (y0 : Int32) (y1 : Int32) (y2 : Option Nat) : M Int32 := bn (stI 360 y2 y1 y0) fun _ => k24 this (x1 + (1 : Int32))
set_option maxRecDepth 100000 in
theorem O_X12_night_L138 (Γ : Gam) (k24 : Nat → Int32 → M Int32) (hk24 : ∀ (z0 : Nat) (z1 : Int32), Ok Γ mX12_night 103 (qo Γ vI) 24 [(0, va_rf (some z0)), (1, .int z1)] [] (k24 z0 z1)) (this : Nat) (x1 : Int32) (y0 : Int32) (y1 : Int32) (y2 : Option Nat) : Ok Γ mX12_night 103 (qo Γ vI) 138 [(0, va_rf (some this)), (1, .int x1)] [.int y0, .int y1, va_rf y2] (F_X12_night_L138 k24 this x1 y0 y1 y2) := by
  unfold F_X12_night_L138
  refine ok_stI (kd := 360) (by decide) rfl (dd TX12_night_2 1 rfl) ?_
  refine ok_iinc (lv' := [(1, .int (x1 + (1 : Int32))), (0, va_rf (some this))]) (dd TX12_night_2 2 rfl) 1 rfl (congrArg (fun q : Int32 => x1 + q) (show Int32.ofInt (1) = (1 : Int32) from by decide)) (by decide) (by first | rfl | (simp only [List.filter, cat_rf]; rfl)) ?_
  refine ok_goto (tgt := 24) (dd TX12_night_2 3 rfl) (by decide) ?_
  refine ok_sub [1, 0] rfl ?_
  exact hk24 this (x1 + (1 : Int32))
def F_X12_night_L102 (k24 : Nat → Int32 → M Int32) (k38 : Nat → Int32 → Int32 → Int32 → M Int32) (this : Nat) (x1 : Int32) (x2 : Int32) (x3 : Int32) : M Int32 := k38 this x1 x2 (x3 + (1 : Int32))
set_option maxRecDepth 100000 in
theorem O_X12_night_L102 (Γ : Gam) (k24 : Nat → Int32 → M Int32) (hk24 : ∀ (z0 : Nat) (z1 : Int32), Ok Γ mX12_night 103 (qo Γ vI) 24 [(0, va_rf (some z0)), (1, .int z1)] [] (k24 z0 z1)) (k38 : Nat → Int32 → Int32 → Int32 → M Int32) (hk38 : ∀ (z0 : Nat) (z1 : Int32) (z2 : Int32) (z3 : Int32), Ok Γ mX12_night 103 (qo Γ vI) 38 [(0, va_rf (some z0)), (1, .int z1), (2, .int z2), (3, .int z3)] [] (k38 z0 z1 z2 z3)) (this : Nat) (x1 : Int32) (x2 : Int32) (x3 : Int32) : Ok Γ mX12_night 103 (qo Γ vI) 102 [(0, va_rf (some this)), (1, .int x1), (2, .int x2), (3, .int x3)] [] (F_X12_night_L102 k24 k38 this x1 x2 x3) := by
  unfold F_X12_night_L102
  refine ok_iinc (lv' := [(3, .int (x3 + (1 : Int32))), (0, va_rf (some this)), (1, .int x1), (2, .int x2)]) (dd TX12_night_1 20 rfl) 3 rfl (congrArg (fun q : Int32 => x3 + q) (show Int32.ofInt (1) = (1 : Int32) from by decide)) (by decide) (by first | rfl | (simp only [List.filter, cat_rf]; rfl)) ?_
  refine ok_goto (tgt := 38) (dd TX12_night_1 21 rfl) (by decide) ?_
  refine ok_sub [1, 2, 3, 0] rfl ?_
  exact hk38 this x1 x2 (x3 + (1 : Int32))
def F_X12_night_L38 (k24 : Nat → Int32 → M Int32) : Nat → Nat → Int32 → Int32 → Int32 → M Int32
  | 0 => fun _ _ _ _ => fl
  | n + 1 => fun this x1 x2 x3 => bn (gI 12 23 (some this)) fun v11 => if v11 ≤ x3 then bn (gP 12 25 (some this)) fun v12 => bn (gI 12 24 (some this)) fun v13 => bn (stI 296 v12 (((6 : Int32) * v13) + x1) x2) fun _ => bn (gP 12 47 (some this)) fun v14 => if ¬ x2 = (-1 : Int32) then F_X12_night_L138 k24 this x1 x2 x1 v14 else F_X12_night_L138 k24 this x1 (0 : Int32) x1 v14 else bn (gP 12 22 (some this)) fun v15 => bn (lI 288 v15 ((7 : Int32) * x3)) fun v16 => if ¬ v16 = x1 then F_X12_night_L102 k24 (F_X12_night_L38 k24 n) this x1 x2 x3 else bn (gP 12 22 (some this)) fun v17 => bn (lI 288 v17 (((7 : Int32) * x3) + (5 : Int32))) fun v18 => bn (gI 12 24 (some this)) fun v19 => if ¬ v18 = v19 then F_X12_night_L102 k24 (F_X12_night_L38 k24 n) this x1 x2 x3 else bn (gP 12 22 (some this)) fun v20 => bn (lI 288 v20 (((7 : Int32) * x3) + (6 : Int32))) fun v21 => if ¬ v21 = 0 then F_X12_night_L102 k24 (F_X12_night_L38 k24 n) this x1 x2 x3 else bn (gP 12 22 (some this)) fun v22 => bn (lI 288 v22 (((7 : Int32) * x3) + (1 : Int32))) fun v23 => F_X12_night_L102 k24 (F_X12_night_L38 k24 n) this x1 v23 x3
set_option maxRecDepth 100000 in
theorem O_X12_night_L38 (Γ : Gam) (k24 : Nat → Int32 → M Int32) (hk24 : ∀ (z0 : Nat) (z1 : Int32), Ok Γ mX12_night 103 (qo Γ vI) 24 [(0, va_rf (some z0)), (1, .int z1)] [] (k24 z0 z1)) (n : Nat) : ∀ (this : Nat) (x1 : Int32) (x2 : Int32) (x3 : Int32), Ok Γ mX12_night 103 (qo Γ vI) 38 [(0, va_rf (some this)), (1, .int x1), (2, .int x2), (3, .int x3)] [] (F_X12_night_L38 k24 n this x1 x2 x3) := by
  induction n with
  | zero => intro this x1 x2 x3; exact ok_fl
  | succ n ih =>
    intro this x1 x2 x3
    rw [F_X12_night_L38]
    refine ok_iload_n (dd TX12_night_0 23 rfl) 3 rfl ?_
    refine ok_aload_n (dd TX12_night_0 24 rfl) 0 rfl ?_
    refine ok_gI fl_RX12_270 rfl (dd TX12_night_0 25 rfl) (fun v11 => ?_)
    refine ok_icmp_ge (tgt := 108) (dd TX12_night_0 26 rfl) (by decide) ?_ ?_
    · refine ok_aload_n (dd TX12_night_1 22 rfl) 0 rfl ?_
      refine ok_gP fl_RX12_63 rfl (dd TX12_night_1 23 rfl) (fun v12 => ?_)
      refine ok_bipush (v := (6 : Int32)) (dd TX12_night_1 24 rfl) (by decide) ?_
      refine ok_aload_n (dd TX12_night_1 25 rfl) 0 rfl ?_
      refine ok_gI fl_RX12_238 rfl (dd TX12_night_1 26 rfl) (fun v13 => ?_)
      refine ok_imul (dd TX12_night_1 27 rfl) ?_
      refine ok_iload_n (dd TX12_night_1 28 rfl) 1 rfl ?_
      refine ok_iadd (dd TX12_night_1 29 rfl) ?_
      refine ok_iload_n (dd TX12_night_1 30 rfl) 2 rfl ?_
      refine ok_stI (kd := 296) (by decide) rfl (dd TX12_night_1 31 rfl) ?_
      refine ok_aload_n (dd TX12_night_1 32 rfl) 0 rfl ?_
      refine ok_gP fl_RX12_87 rfl (dd TX12_night_1 33 rfl) (fun v14 => ?_)
      refine ok_iload_n (dd TX12_night_1 34 rfl) 1 rfl ?_
      refine ok_iload_n (dd TX12_night_1 35 rfl) 2 rfl ?_
      refine ok_iconst (v := (-1 : Int32)) (dd TX12_night_1 36 rfl) (by decide) ?_
      refine ok_icmp_ne (tgt := 137) (dd TX12_night_1 37 rfl) (by decide) ?_ ?_
      · refine ok_iload_n (dd TX12_night_2 0 rfl) 2 rfl ?_
        refine ok_sub [0, 1] rfl ?_
        exact O_X12_night_L138 Γ k24 hk24 this x1 x2 x1 v14
      · refine ok_iconst (v := (0 : Int32)) (dd TX12_night_1 38 rfl) (by decide) ?_
        refine ok_goto (tgt := 138) (dd TX12_night_1 39 rfl) (by decide) ?_
        refine ok_sub [0, 1] rfl ?_
        exact O_X12_night_L138 Γ k24 hk24 this x1 (0 : Int32) x1 v14
    · refine ok_bipush (v := (7 : Int32)) (dd TX12_night_0 27 rfl) (by decide) ?_
      refine ok_iload_n (dd TX12_night_0 28 rfl) 3 rfl ?_
      refine ok_imul (dd TX12_night_0 29 rfl) ?_
      refine ok_istore (lv' := [(4, .int ((7 : Int32) * x3)), (0, va_rf (some this)), (1, .int x1), (2, .int x2), (3, .int x3)]) (dd TX12_night_0 30 rfl) (by decide) (by first | rfl | (simp only [List.filter, cat_rf]; rfl)) ?_
      refine ok_aload_n (dd TX12_night_0 31 rfl) 1 rfl ?_
      refine ok_gP fl_RX12_60 rfl (dd TX12_night_0 32 rfl) (fun v15 => ?_)
      refine ok_iload (dd TX12_night_0 33 rfl) 0 rfl ?_
      refine ok_lI (kd := 288) (by decide) rfl (dd TX12_night_0 34 rfl) (fun v16 => ?_)
      refine ok_iload_n (dd TX12_night_0 35 rfl) 2 rfl ?_
      refine ok_icmp_ne (tgt := 102) (dd TX12_night_0 36 rfl) (by decide) ?_ ?_
      · refine ok_sub [1, 2, 3, 4] rfl ?_
        exact O_X12_night_L102 Γ k24 hk24 (F_X12_night_L38 k24 n) ih this x1 x2 x3
      · refine ok_aload_n (dd TX12_night_0 37 rfl) 1 rfl ?_
        refine ok_gP fl_RX12_60 rfl (dd TX12_night_0 38 rfl) (fun v17 => ?_)
        refine ok_iload (dd TX12_night_0 39 rfl) 0 rfl ?_
        refine ok_iconst (v := (5 : Int32)) (dd TX12_night_1 0 rfl) (by decide) ?_
        refine ok_iadd (dd TX12_night_1 1 rfl) ?_
        refine ok_lI (kd := 288) (by decide) rfl (dd TX12_night_1 2 rfl) (fun v18 => ?_)
        refine ok_aload_n (dd TX12_night_1 3 rfl) 1 rfl ?_
        refine ok_gI fl_RX12_238 rfl (dd TX12_night_1 4 rfl) (fun v19 => ?_)
        refine ok_icmp_ne (tgt := 102) (dd TX12_night_1 5 rfl) (by decide) ?_ ?_
        · refine ok_sub [1, 2, 3, 4] rfl ?_
          exact O_X12_night_L102 Γ k24 hk24 (F_X12_night_L38 k24 n) ih this x1 x2 x3
        · refine ok_aload_n (dd TX12_night_1 6 rfl) 1 rfl ?_
          refine ok_gP fl_RX12_60 rfl (dd TX12_night_1 7 rfl) (fun v20 => ?_)
          refine ok_iload (dd TX12_night_1 8 rfl) 0 rfl ?_
          refine ok_bipush (v := (6 : Int32)) (dd TX12_night_1 9 rfl) (by decide) ?_
          refine ok_iadd (dd TX12_night_1 10 rfl) ?_
          refine ok_lI (kd := 288) (by decide) rfl (dd TX12_night_1 11 rfl) (fun v21 => ?_)
          refine ok_if_ne (tgt := 102) (dd TX12_night_1 12 rfl) (by decide) ?_ ?_
          · refine ok_sub [1, 2, 3, 4] rfl ?_
            exact O_X12_night_L102 Γ k24 hk24 (F_X12_night_L38 k24 n) ih this x1 x2 x3
          · refine ok_aload_n (dd TX12_night_1 13 rfl) 1 rfl ?_
            refine ok_gP fl_RX12_60 rfl (dd TX12_night_1 14 rfl) (fun v22 => ?_)
            refine ok_iload (dd TX12_night_1 15 rfl) 0 rfl ?_
            refine ok_iconst (v := (1 : Int32)) (dd TX12_night_1 16 rfl) (by decide) ?_
            refine ok_iadd (dd TX12_night_1 17 rfl) ?_
            refine ok_lI (kd := 288) (by decide) rfl (dd TX12_night_1 18 rfl) (fun v23 => ?_)
            refine ok_istore_n (lv' := [(2, .int v23), (4, .int ((7 : Int32) * x3)), (0, va_rf (some this)), (1, .int x1), (3, .int x3)]) (dd TX12_night_1 19 rfl) (by decide) (by first | rfl | (simp only [List.filter, cat_rf]; rfl)) ?_
            refine ok_sub [2, 3, 0, 4] rfl ?_
            exact O_X12_night_L102 Γ k24 hk24 (F_X12_night_L38 k24 n) ih this x1 v23 x3
def F_X12_night_L24 : Nat → Nat → Int32 → M Int32
  | 0 => fun _ _ => fl
  | n + 1 => fun this x1 => if (6 : Int32) ≤ x1 then F_X12_night_L149 FU this (0 : Int32) (0 : Int32) else bn (pRc 12 (some this)) fun b2 => bn (F_X12_latest b2 x1) fun v3 => F_X12_night_L38 (F_X12_night_L24 n) FU this x1 v3 (0 : Int32)
set_option maxRecDepth 100000 in
theorem O_X12_night_L24 (Γ : Gam) (n : Nat) : ∀ (this : Nat) (x1 : Int32), Ok Γ mX12_night 103 (qo Γ vI) 24 [(0, va_rf (some this)), (1, .int x1)] [] (F_X12_night_L24 n this x1) := by
  induction n with
  | zero => intro this x1; exact ok_fl
  | succ n ih =>
    intro this x1
    rw [F_X12_night_L24]
    refine ok_iload_n (dd TX12_night_0 14 rfl) 1 rfl ?_
    refine ok_bipush (v := (6 : Int32)) (dd TX12_night_0 15 rfl) (by decide) ?_
    refine ok_icmp_ge (tgt := 145) (dd TX12_night_0 16 rfl) (by decide) ?_ ?_
    · refine ok_iconst (v := (0 : Int32)) (dd TX12_night_2 4 rfl) (by decide) ?_
      refine ok_istore_n (lv' := [(1, .int (0 : Int32)), (0, va_rf (some this))]) (dd TX12_night_2 5 rfl) (by decide) (by first | rfl | (simp only [List.filter, cat_rf]; rfl)) ?_
      refine ok_iconst (v := (0 : Int32)) (dd TX12_night_2 6 rfl) (by decide) ?_
      refine ok_istore_n (lv' := [(2, .int (0 : Int32)), (1, .int (0 : Int32)), (0, va_rf (some this))]) (dd TX12_night_2 7 rfl) (by decide) (by first | rfl | (simp only [List.filter, cat_rf]; rfl)) ?_
      refine ok_sub [2, 1, 0] rfl ?_
      exact O_X12_night_L149 Γ FU this (0 : Int32) (0 : Int32)
    · refine ok_aload_n (dd TX12_night_0 17 rfl) 0 rfl ?_
      refine ok_iload_n (dd TX12_night_0 18 rfl) 1 rfl ?_
      refine ok_callVI (cn := 12) [.int x1] [] (fun b2 => C_X12_latest Γ b2 x1) rfl cy_X12_latest ml_RX12_262 im_X12_latest se_X12_latest (by decide) (Nat.le_of_ble_eq_true rfl) rfl (dd TX12_night_0 19 rfl) (fun v3 => ?_)
      refine ok_istore_n (lv' := [(2, .int v3), (0, va_rf (some this)), (1, .int x1)]) (dd TX12_night_0 20 rfl) (by decide) (by first | rfl | (simp only [List.filter, cat_rf]; rfl)) ?_
      refine ok_iconst (v := (0 : Int32)) (dd TX12_night_0 21 rfl) (by decide) ?_
      refine ok_istore_n (lv' := [(3, .int (0 : Int32)), (2, .int v3), (0, va_rf (some this)), (1, .int x1)]) (dd TX12_night_0 22 rfl) (by decide) (by first | rfl | (simp only [List.filter, cat_rf]; rfl)) ?_
      refine ok_sub [2, 3, 1, 0] rfl ?_
      exact O_X12_night_L38 Γ (F_X12_night_L24 n) ih FU this x1 v3 (0 : Int32)
def F_X12_night (this : Nat) : M Int32 := bn (wI 12 35 (some this) (0 : Int32)) fun _ => bn (gI 12 24 (some this)) fun v1 => if ¬ v1 = (150 : Int32) then bn (wI 12 21 (some this) (0 : Int32)) fun _ => F_X12_night_L24 FU this (0 : Int32) else rt (-1 : Int32)
set_option maxRecDepth 100000 in
theorem C_X12_night (Γ : Gam) (this : Nat) : Ct Γ mX12_night 103 vI [va_rf (some this)] (F_X12_night this) := by
  refine ct_in (lv := [(0, va_rf (some this))]) (by decide) (by first | rfl | (simp only [lv_args, cat_rf]; rfl)) (by first | exact Nat.le_of_ble_eq_true rfl | (rw [lg_len]; simp only [List.map_cons, List.map_nil, cat_rf]; exact Nat.le_of_ble_eq_true rfl)) ?_
  unfold F_X12_night
  refine ok_aload_n (dd TX12_night_0 0 rfl) 0 rfl ?_
  refine ok_iconst (v := (0 : Int32)) (dd TX12_night_0 1 rfl) (by decide) ?_
  refine ok_wI fl_RX12_90 (Or.inl rfl) (tyX12_ok 35 (by decide)) (by decide) rfl (dd TX12_night_0 2 rfl) ?_
  refine ok_aload_n (dd TX12_night_0 3 rfl) 0 rfl ?_
  refine ok_gI fl_RX12_238 rfl (dd TX12_night_0 4 rfl) (fun v1 => ?_)
  refine ok_sipush (v := (150 : Int32)) (dd TX12_night_0 5 rfl) (by decide) ?_
  refine ok_icmp_ne (tgt := 17) (dd TX12_night_0 6 rfl) (by decide) ?_ ?_
  · refine ok_aload_n (dd TX12_night_0 9 rfl) 0 rfl ?_
    refine ok_iconst (v := (0 : Int32)) (dd TX12_night_0 10 rfl) (by decide) ?_
    refine ok_wI fl_RX12_245 (Or.inl rfl) (tyX12_ok 21 (by decide)) (by decide) rfl (dd TX12_night_0 11 rfl) ?_
    refine ok_iconst (v := (0 : Int32)) (dd TX12_night_0 12 rfl) (by decide) ?_
    refine ok_istore_n (lv' := [(1, .int (0 : Int32)), (0, va_rf (some this))]) (dd TX12_night_0 13 rfl) (by decide) (by first | rfl | (simp only [List.filter, cat_rf]; rfl)) ?_
    refine ok_sub [1, 0] rfl ?_
    exact O_X12_night_L24 Γ FU this (0 : Int32)
  · refine ok_iconst (v := (-1 : Int32)) (dd TX12_night_0 7 rfl) (by decide) ?_
    exact ok_ireturn (dd TX12_night_0 8 rfl) rfl
def F_X12_money_L25 (this : Nat) : M Int64 := bn (wI 12 35 (some this) (1 : Int32)) fun _ => rt (0 : Int64)
set_option maxRecDepth 100000 in
theorem O_X12_money_L25 (Γ : Gam) (this : Nat) : Ok Γ mX12_money 103 (qo Γ vL) 25 [(0, va_rf (some this))] [] (F_X12_money_L25 this) := by
  unfold F_X12_money_L25
  refine ok_aload_n (dd TX12_money_0 13 rfl) 0 rfl ?_
  refine ok_iconst (v := (1 : Int32)) (dd TX12_money_0 14 rfl) (by decide) ?_
  refine ok_wI fl_RX12_90 (Or.inl rfl) (tyX12_ok 35 (by decide)) (by decide) rfl (dd TX12_money_0 15 rfl) ?_
  refine ok_lconst (v := (0 : Int64)) (dd TX12_money_0 16 rfl) (by decide) ?_
  exact ok_lreturn (dd TX12_money_0 17 rfl) rfl
def F_X12_money_L179 (k136 : Nat → Int32 → Int64 → Int32 → M Int64) (this : Nat) (x1 : Int32) (x3 : Int64) (x5 : Int32) : M Int64 := k136 this x1 x3 (x5 + (1 : Int32))
set_option maxRecDepth 100000 in
theorem O_X12_money_L179 (Γ : Gam) (k136 : Nat → Int32 → Int64 → Int32 → M Int64) (hk136 : ∀ (z0 : Nat) (z1 : Int32) (z3 : Int64) (z5 : Int32), Ok Γ mX12_money 103 (qo Γ vL) 136 [(0, va_rf (some z0)), (1, .int z1), (3, .long z3), (5, .int z5)] [] (k136 z0 z1 z3 z5)) (this : Nat) (x1 : Int32) (x3 : Int64) (x5 : Int32) : Ok Γ mX12_money 103 (qo Γ vL) 179 [(0, va_rf (some this)), (1, .int x1), (3, .long x3), (5, .int x5)] [] (F_X12_money_L179 k136 this x1 x3 x5) := by
  unfold F_X12_money_L179
  refine ok_iinc (lv' := [(5, .int (x5 + (1 : Int32))), (0, va_rf (some this)), (1, .int x1), (3, .long x3)]) (dd TX12_money_2 11 rfl) 3 rfl (congrArg (fun q : Int32 => x5 + q) (show Int32.ofInt (1) = (1 : Int32) from by decide)) (by decide) (by first | rfl | (simp only [List.filter, cat_rf]; rfl)) ?_
  refine ok_goto (tgt := 136) (dd TX12_money_2 12 rfl) (by decide) ?_
  refine ok_sub [1, 2, 3, 0] rfl ?_
  exact hk136 this x1 x3 (x5 + (1 : Int32))
def F_X12_money_L136 : Nat → Nat → Int32 → Int64 → Int32 → M Int64
  | 0 => fun _ _ _ _ => fl
  | n + 1 => fun this x1 x3 x5 => bn (gI 12 32 (some this)) fun v17 => if v17 ≤ x5 then rt x3 else bn (gP 12 31 (some this)) fun v18 => bn (lI 336 v18 (((4 : Int32) * x5) + (2 : Int32))) fun v19 => if ¬ v19 = x1 then F_X12_money_L179 (F_X12_money_L136 n) this x1 x3 x5 else bn (gP 12 31 (some this)) fun v20 => bn (lI 336 v20 (((4 : Int32) * x5) + (3 : Int32))) fun v21 => if ¬ v21 = (1 : Int32) then F_X12_money_L179 (F_X12_money_L136 n) this x1 x3 x5 else F_X12_money_L179 (F_X12_money_L136 n) this x1 (x3 + (1 : Int64)) x5
set_option maxRecDepth 100000 in
theorem O_X12_money_L136 (Γ : Gam) (n : Nat) : ∀ (this : Nat) (x1 : Int32) (x3 : Int64) (x5 : Int32), Ok Γ mX12_money 103 (qo Γ vL) 136 [(0, va_rf (some this)), (1, .int x1), (3, .long x3), (5, .int x5)] [] (F_X12_money_L136 n this x1 x3 x5) := by
  induction n with
  | zero => intro this x1 x3 x5; exact ok_fl
  | succ n ih =>
    intro this x1 x3 x5
    rw [F_X12_money_L136]
    refine ok_iload (dd TX12_money_1 23 rfl) 3 rfl ?_
    refine ok_aload_n (dd TX12_money_1 24 rfl) 0 rfl ?_
    refine ok_gI fl_RX12_310 rfl (dd TX12_money_1 25 rfl) (fun v17 => ?_)
    refine ok_icmp_ge (tgt := 185) (dd TX12_money_1 26 rfl) (by decide) ?_ ?_
    · refine ok_lload_n (dd TX12_money_2 13 rfl) 2 rfl ?_
      exact ok_lreturn (dd TX12_money_2 14 rfl) rfl
    · refine ok_aload_n (dd TX12_money_1 27 rfl) 0 rfl ?_
      refine ok_gP fl_RX12_78 rfl (dd TX12_money_1 28 rfl) (fun v18 => ?_)
      refine ok_iconst (v := (4 : Int32)) (dd TX12_money_1 29 rfl) (by decide) ?_
      refine ok_iload (dd TX12_money_1 30 rfl) 3 rfl ?_
      refine ok_imul (dd TX12_money_1 31 rfl) ?_
      refine ok_iconst (v := (2 : Int32)) (dd TX12_money_1 32 rfl) (by decide) ?_
      refine ok_iadd (dd TX12_money_1 33 rfl) ?_
      refine ok_lI (kd := 336) (by decide) rfl (dd TX12_money_1 34 rfl) (fun v19 => ?_)
      refine ok_iload_n (dd TX12_money_1 35 rfl) 1 rfl ?_
      refine ok_icmp_ne (tgt := 179) (dd TX12_money_1 36 rfl) (by decide) ?_ ?_
      · exact O_X12_money_L179 Γ (F_X12_money_L136 n) ih this x1 x3 x5
      · refine ok_aload_n (dd TX12_money_1 37 rfl) 0 rfl ?_
        refine ok_gP fl_RX12_78 rfl (dd TX12_money_1 38 rfl) (fun v20 => ?_)
        refine ok_iconst (v := (4 : Int32)) (dd TX12_money_1 39 rfl) (by decide) ?_
        refine ok_iload (dd TX12_money_2 0 rfl) 3 rfl ?_
        refine ok_imul (dd TX12_money_2 1 rfl) ?_
        refine ok_iconst (v := (3 : Int32)) (dd TX12_money_2 2 rfl) (by decide) ?_
        refine ok_iadd (dd TX12_money_2 3 rfl) ?_
        refine ok_lI (kd := 336) (by decide) rfl (dd TX12_money_2 4 rfl) (fun v21 => ?_)
        refine ok_iconst (v := (1 : Int32)) (dd TX12_money_2 5 rfl) (by decide) ?_
        refine ok_icmp_ne (tgt := 179) (dd TX12_money_2 6 rfl) (by decide) ?_ ?_
        · exact O_X12_money_L179 Γ (F_X12_money_L136 n) ih this x1 x3 x5
        · refine ok_lload_n (dd TX12_money_2 7 rfl) 2 rfl ?_
          refine ok_lconst (v := (1 : Int64)) (dd TX12_money_2 8 rfl) (by decide) ?_
          refine ok_ladd (dd TX12_money_2 9 rfl) ?_
          refine ok_lstore_n (lv' := [(3, .long (x3 + (1 : Int64))), (0, va_rf (some this)), (1, .int x1), (5, .int x5)]) (dd TX12_money_2 10 rfl) (by decide) (by first | rfl | (simp only [List.filter, cat_rf]; rfl)) ?_
          refine ok_sub [1, 2, 0, 3] rfl ?_
          exact O_X12_money_L179 Γ (F_X12_money_L136 n) ih this x1 (x3 + (1 : Int64)) x5
def F_X12_money (this : Nat) (p0 : Int32) (p1 : Int32) : M Int64 := bn (wI 12 35 (some this) (0 : Int32)) fun _ => bn (pRc 12 (some this)) fun b1 => bn (F_X12_isMember b1 p0) fun v2 => if v2 = 0 then F_X12_money_L25 this else bn (F_X12_in p1.toInt64 (0 : Int64) (6 : Int64)) fun v3 => if ¬ v3 = 0 then bn (pRc 12 (some this)) fun b4 => bn (F_X12_latestPrices b4) fun _ => swF p1 [((0 : Int32), 76, bn (gP 12 11 (some this)) fun v5 => bn (lL 209 v5 p0) fun v6 => rt v6), ((1 : Int32), 83, bn (pRc 12 (some this)) fun b7 => bn (F_X12_equityOf b7 p0) fun v8 => rt v8), ((2 : Int32), 89, bn (gP 12 12 (some this)) fun v9 => bn (lI 218 v9 p0) fun v10 => if v10 = 0 then rt (0 : Int64) else rt (1 : Int64)), ((3 : Int32), 104, bn (gP 12 13 (some this)) fun v11 => bn (lI 226 v11 p0) fun v12 => if v12 = 0 then rt (0 : Int64) else rt (1 : Int64)), ((4 : Int32), 119, bn (pRc 12 (some this)) fun b13 => bn (F_X12_need b13 p0 (1 : Int32)) fun v14 => rt v14), ((5 : Int32), 126, bn (pRc 12 (some this)) fun b15 => bn (F_X12_need b15 p0 (2 : Int32)) fun v16 => rt v16)] (F_X12_money_L136 FU this p0 (0 : Int64) (0 : Int32)) else F_X12_money_L25 this
set_option maxRecDepth 100000 in
theorem C_X12_money (Γ : Gam) (this : Nat) (p0 : Int32) (p1 : Int32) : Ct Γ mX12_money 103 vL [va_rf (some this), .int p0, .int p1] (F_X12_money this p0 p1) := by
  refine ct_in (lv := [(0, va_rf (some this)), (1, .int p0), (2, .int p1)]) (by decide) (by first | rfl | (simp only [lv_args, cat_rf]; rfl)) (by first | exact Nat.le_of_ble_eq_true rfl | (rw [lg_len]; simp only [List.map_cons, List.map_nil, cat_rf]; exact Nat.le_of_ble_eq_true rfl)) ?_
  unfold F_X12_money
  refine ok_aload_n (dd TX12_money_0 0 rfl) 0 rfl ?_
  refine ok_iconst (v := (0 : Int32)) (dd TX12_money_0 1 rfl) (by decide) ?_
  refine ok_wI fl_RX12_90 (Or.inl rfl) (tyX12_ok 35 (by decide)) (by decide) rfl (dd TX12_money_0 2 rfl) ?_
  refine ok_aload_n (dd TX12_money_0 3 rfl) 0 rfl ?_
  refine ok_iload_n (dd TX12_money_0 4 rfl) 1 rfl ?_
  refine ok_callVI (cn := 12) [.int p0] [] (fun b1 => C_X12_isMember Γ b1 p0) rfl cy_X12_isMember ml_RX12_252 im_X12_isMember se_X12_isMember (by decide) (Nat.le_of_ble_eq_true rfl) rfl (dd TX12_money_0 5 rfl) (fun v2 => ?_)
  refine ok_if_eq (tgt := 25) (dd TX12_money_0 6 rfl) (by decide) ?_ ?_
  · refine ok_sub [0] rfl ?_
    exact O_X12_money_L25 Γ this
  · refine ok_iload_n (dd TX12_money_0 7 rfl) 2 rfl ?_
    refine ok_i2l (dd TX12_money_0 8 rfl) ?_
    refine ok_lconst (v := (0 : Int64)) (dd TX12_money_0 9 rfl) (by decide) ?_
    refine ok_ldc2 (v := (6 : Int64)) (dd TX12_money_0 10 rfl) cl2_RX12_290 ?_
    refine ok_callSI [.long p1.toInt64, .long (0 : Int64), .long (6 : Int64)] [] (C_X12_in Γ p1.toInt64 (0 : Int64) (6 : Int64)) cy_X12_in ml_RX12_97 sm_X12_in (by decide) (Nat.le_of_ble_eq_true rfl) rfl (dd TX12_money_0 11 rfl) (fun v3 => ?_)
    refine ok_if_ne (tgt := 32) (dd TX12_money_0 12 rfl) (by decide) ?_ ?_
    · refine ok_aload_n (dd TX12_money_0 18 rfl) 0 rfl ?_
      refine ok_callVV (cn := 12) [] [] (fun b4 => C_X12_latestPrices Γ b4) rfl cy_X12_latestPrices ml_RX12_307 im_X12_latestPrices se_X12_latestPrices (by decide) (Nat.le_of_ble_eq_true rfl) rfl (dd TX12_money_0 19 rfl) ?_
      refine ok_lconst (v := (0 : Int64)) (dd TX12_money_0 20 rfl) (by decide) ?_
      refine ok_lstore_n (lv' := [(3, .long (0 : Int64)), (0, va_rf (some this)), (1, .int p0), (2, .int p1)]) (dd TX12_money_0 21 rfl) (by decide) (by first | rfl | (simp only [List.filter, cat_rf]; rfl)) ?_
      refine ok_iload_n (dd TX12_money_0 22 rfl) 3 rfl ?_
      refine ok_tsw (dt := 133) (dd TX12_money_0 23 rfl) rfl (List.forall_mem_cons.mpr ⟨?_, List.forall_mem_cons.mpr ⟨?_, List.forall_mem_cons.mpr ⟨?_, List.forall_mem_cons.mpr ⟨?_, List.forall_mem_cons.mpr ⟨?_, List.forall_mem_cons.mpr ⟨?_, fun _ h => absurd h List.not_mem_nil⟩⟩⟩⟩⟩⟩) ?_
      · show Ok _ _ _ _ 76 _ _ (bn (gP 12 11 (some this)) fun v5 => bn (lL 209 v5 p0) fun v6 => rt v6)
        refine ok_aload_n (dd TX12_money_0 24 rfl) 1 rfl ?_
        refine ok_gP fl_RX12_28 rfl (dd TX12_money_0 25 rfl) (fun v5 => ?_)
        refine ok_iload_n (dd TX12_money_0 26 rfl) 2 rfl ?_
        refine ok_lL (kd := 209) (by decide) rfl (dd TX12_money_0 27 rfl) (fun v6 => ?_)
        exact ok_lreturn (dd TX12_money_0 28 rfl) rfl
      · show Ok _ _ _ _ 83 _ _ (bn (pRc 12 (some this)) fun b7 => bn (F_X12_equityOf b7 p0) fun v8 => rt v8)
        refine ok_aload_n (dd TX12_money_0 29 rfl) 1 rfl ?_
        refine ok_iload_n (dd TX12_money_0 30 rfl) 2 rfl ?_
        refine ok_callVL (cn := 12) [.int p0] [] (fun b7 => C_X12_equityOf Γ b7 p0) rfl cy_X12_equityOf ml_RX12_292 im_X12_equityOf se_X12_equityOf (by decide) (Nat.le_of_ble_eq_true rfl) rfl (dd TX12_money_0 31 rfl) (fun v8 => ?_)
        exact ok_lreturn (dd TX12_money_0 32 rfl) rfl
      · show Ok _ _ _ _ 89 _ _ (bn (gP 12 12 (some this)) fun v9 => bn (lI 218 v9 p0) fun v10 => if v10 = 0 then rt (0 : Int64) else rt (1 : Int64))
        refine ok_aload_n (dd TX12_money_0 33 rfl) 1 rfl ?_
        refine ok_gP fl_RX12_32 rfl (dd TX12_money_0 34 rfl) (fun v9 => ?_)
        refine ok_iload_n (dd TX12_money_0 35 rfl) 2 rfl ?_
        refine ok_lZ (kd := 218) (by decide) rfl (dd TX12_money_0 36 rfl) (fun v10 => ?_)
        refine ok_if_eq (tgt := 102) (dd TX12_money_0 37 rfl) (by decide) ?_ ?_
        · refine ok_lconst (v := (0 : Int64)) (dd TX12_money_1 0 rfl) (by decide) ?_
          exact ok_lreturn (dd TX12_money_1 1 rfl) rfl
        · refine ok_lconst (v := (1 : Int64)) (dd TX12_money_0 38 rfl) (by decide) ?_
          refine ok_goto (tgt := 103) (dd TX12_money_0 39 rfl) (by decide) ?_
          exact ok_lreturn (dd TX12_money_1 1 rfl) rfl
      · show Ok _ _ _ _ 104 _ _ (bn (gP 12 13 (some this)) fun v11 => bn (lI 226 v11 p0) fun v12 => if v12 = 0 then rt (0 : Int64) else rt (1 : Int64))
        refine ok_aload_n (dd TX12_money_1 2 rfl) 1 rfl ?_
        refine ok_gP fl_RX12_36 rfl (dd TX12_money_1 3 rfl) (fun v11 => ?_)
        refine ok_iload_n (dd TX12_money_1 4 rfl) 2 rfl ?_
        refine ok_lZ (kd := 226) (by decide) rfl (dd TX12_money_1 5 rfl) (fun v12 => ?_)
        refine ok_if_eq (tgt := 117) (dd TX12_money_1 6 rfl) (by decide) ?_ ?_
        · refine ok_lconst (v := (0 : Int64)) (dd TX12_money_1 9 rfl) (by decide) ?_
          exact ok_lreturn (dd TX12_money_1 10 rfl) rfl
        · refine ok_lconst (v := (1 : Int64)) (dd TX12_money_1 7 rfl) (by decide) ?_
          refine ok_goto (tgt := 118) (dd TX12_money_1 8 rfl) (by decide) ?_
          exact ok_lreturn (dd TX12_money_1 10 rfl) rfl
      · show Ok _ _ _ _ 119 _ _ (bn (pRc 12 (some this)) fun b13 => bn (F_X12_need b13 p0 (1 : Int32)) fun v14 => rt v14)
        refine ok_aload_n (dd TX12_money_1 11 rfl) 1 rfl ?_
        refine ok_iload_n (dd TX12_money_1 12 rfl) 2 rfl ?_
        refine ok_iconst (v := (1 : Int32)) (dd TX12_money_1 13 rfl) (by decide) ?_
        refine ok_callVL (cn := 12) [.int p0, .int (1 : Int32)] [] (fun b13 => C_X12_need Γ b13 p0 (1 : Int32)) rfl cy_X12_need ml_RX12_296 im_X12_need se_X12_need (by decide) (Nat.le_of_ble_eq_true rfl) rfl (dd TX12_money_1 14 rfl) (fun v14 => ?_)
        exact ok_lreturn (dd TX12_money_1 15 rfl) rfl
      · show Ok _ _ _ _ 126 _ _ (bn (pRc 12 (some this)) fun b15 => bn (F_X12_need b15 p0 (2 : Int32)) fun v16 => rt v16)
        refine ok_aload_n (dd TX12_money_1 16 rfl) 1 rfl ?_
        refine ok_iload_n (dd TX12_money_1 17 rfl) 2 rfl ?_
        refine ok_iconst (v := (2 : Int32)) (dd TX12_money_1 18 rfl) (by decide) ?_
        refine ok_callVL (cn := 12) [.int p0, .int (2 : Int32)] [] (fun b15 => C_X12_need Γ b15 p0 (2 : Int32)) rfl cy_X12_need ml_RX12_296 im_X12_need se_X12_need (by decide) (Nat.le_of_ble_eq_true rfl) rfl (dd TX12_money_1 19 rfl) (fun v16 => ?_)
        exact ok_lreturn (dd TX12_money_1 20 rfl) rfl
      · show Ok _ _ _ _ 133 _ _ (F_X12_money_L136 FU this p0 (0 : Int64) (0 : Int32))
        refine ok_iconst (v := (0 : Int32)) (dd TX12_money_1 21 rfl) (by decide) ?_
        refine ok_istore (lv' := [(5, .int (0 : Int32)), (3, .long (0 : Int64)), (0, va_rf (some this)), (1, .int p0), (2, .int p1)]) (dd TX12_money_1 22 rfl) (by decide) (by first | rfl | (simp only [List.filter, cat_rf]; rfl)) ?_
        refine ok_sub [2, 3, 1, 0] rfl ?_
        exact O_X12_money_L136 Γ FU this p0 (0 : Int64) (0 : Int32)
    · refine ok_sub [0] rfl ?_
      exact O_X12_money_L25 Γ this
def F_X12_pass_L141 (this : Nat) (x2 : Int32) (x3 : Int32) (x4 : Int32) (x5 : Int32) (x6 : Int32) : M Int32 := bn (gP 12 18 (some this)) fun v19 => bn (lI 264 v19 x4) fun v20 => if ¬ x6 = v20 then bn (gP 12 16 (some this)) fun v21 => bn (lI 248 v21 (x5 + x6)) fun v22 => bn (gI 12 24 (some this)) fun v23 => bn (gP 12 33 (some this)) fun v24 => bn (lI 344 v24 (x2 + (4 : Int32))) fun v25 => bn (pRc 12 (some this)) fun b26 => bn (F_X12_ruleOf b26 (5 : Int32) v23 x4 (0 : Int32) v25 (0 : Int32) (0 : Int32)) fun v27 => bn (gP 12 11 (some this)) fun v28 => bn (lL 209 v28 x3) fun v29 => bn (stL 209 v28 x3 (v29 - v27.toInt64)) fun _ => bn (gP 12 11 (some this)) fun v30 => bn (lL 209 v30 v22) fun v31 => bn (stL 209 v30 v22 (v31 + v27.toInt64)) fun _ => bn (gP 12 33 (some this)) fun v32 => bn (stI 344 v32 (x2 + (1 : Int32)) v22) fun _ => bn (gP 12 33 (some this)) fun v33 => bn (lI 344 v33 (x2 + (4 : Int32))) fun v34 => bn (stI 344 v33 (x2 + (4 : Int32)) (v34 + (1 : Int32))) fun _ => bn (gP 12 33 (some this)) fun v35 => bn (lI 344 v35 (x2 + (6 : Int32))) fun v36 => bn (stI 344 v35 (x2 + (6 : Int32)) (v36 ||| ((1 : Int32) <<< (v22 &&& 31)))) fun _ => rt v22 else rt (-1 : Int32)
set_option maxRecDepth 100000 in
theorem O_X12_pass_L141 (Γ : Gam) (this : Nat) (x2 : Int32) (x3 : Int32) (x4 : Int32) (x5 : Int32) (x6 : Int32) : Ok Γ mX12_pass 102 (qo Γ vI) 141 [(0, va_rf (some this)), (2, .int x2), (3, .int x3), (4, .int x4), (5, .int x5), (6, .int x6)] [] (F_X12_pass_L141 this x2 x3 x4 x5 x6) := by
  unfold F_X12_pass_L141
  refine ok_iload (dd TX12_pass_2 2 rfl) 5 rfl ?_
  refine ok_aload_n (dd TX12_pass_2 3 rfl) 0 rfl ?_
  refine ok_gP fl_RX12_51 rfl (dd TX12_pass_2 4 rfl) (fun v19 => ?_)
  refine ok_iload (dd TX12_pass_2 5 rfl) 3 rfl ?_
  refine ok_lI (kd := 264) (by decide) rfl (dd TX12_pass_2 6 rfl) (fun v20 => ?_)
  refine ok_icmp_ne (tgt := 155) (dd TX12_pass_2 7 rfl) (by decide) ?_ ?_
  · refine ok_aload_n (dd TX12_pass_2 10 rfl) 0 rfl ?_
    refine ok_gP fl_RX12_45 rfl (dd TX12_pass_2 11 rfl) (fun v21 => ?_)
    refine ok_iload (dd TX12_pass_2 12 rfl) 4 rfl ?_
    refine ok_iload (dd TX12_pass_2 13 rfl) 5 rfl ?_
    refine ok_iadd (dd TX12_pass_2 14 rfl) ?_
    refine ok_lI (kd := 248) (by decide) rfl (dd TX12_pass_2 15 rfl) (fun v22 => ?_)
    refine ok_istore (lv' := [(7, .int v22), (0, va_rf (some this)), (2, .int x2), (3, .int x3), (4, .int x4), (5, .int x5), (6, .int x6)]) (dd TX12_pass_2 16 rfl) (by decide) (by first | rfl | (simp only [List.filter, cat_rf]; rfl)) ?_
    refine ok_aload_n (dd TX12_pass_2 17 rfl) 1 rfl ?_
    refine ok_iconst (v := (5 : Int32)) (dd TX12_pass_2 18 rfl) (by decide) ?_
    refine ok_aload_n (dd TX12_pass_2 19 rfl) 1 rfl ?_
    refine ok_gI fl_RX12_238 rfl (dd TX12_pass_2 20 rfl) (fun v23 => ?_)
    refine ok_iload (dd TX12_pass_2 21 rfl) 4 rfl ?_
    refine ok_iconst (v := (0 : Int32)) (dd TX12_pass_2 22 rfl) (by decide) ?_
    refine ok_aload_n (dd TX12_pass_2 23 rfl) 1 rfl ?_
    refine ok_gP fl_RX12_81 rfl (dd TX12_pass_2 24 rfl) (fun v24 => ?_)
    refine ok_iload_n (dd TX12_pass_2 25 rfl) 2 rfl ?_
    refine ok_iconst (v := (4 : Int32)) (dd TX12_pass_2 26 rfl) (by decide) ?_
    refine ok_iadd (dd TX12_pass_2 27 rfl) ?_
    refine ok_lI (kd := 344) (by decide) rfl (dd TX12_pass_2 28 rfl) (fun v25 => ?_)
    refine ok_iconst (v := (0 : Int32)) (dd TX12_pass_2 29 rfl) (by decide) ?_
    refine ok_iconst (v := (0 : Int32)) (dd TX12_pass_2 30 rfl) (by decide) ?_
    refine ok_callVI (cn := 12) [.int (5 : Int32), .int v23, .int x4, .int (0 : Int32), .int v25, .int (0 : Int32), .int (0 : Int32)] [] (fun b26 => C_X12_ruleOf Γ b26 (5 : Int32) v23 x4 (0 : Int32) v25 (0 : Int32) (0 : Int32)) rfl cy_X12_ruleOf ml_RX12_231 im_X12_ruleOf se_X12_ruleOf (by decide) (Nat.le_of_ble_eq_true rfl) rfl (dd TX12_pass_2 31 rfl) (fun v27 => ?_)
    refine ok_istore (lv' := [(8, .int v27), (7, .int v22), (0, va_rf (some this)), (2, .int x2), (3, .int x3), (4, .int x4), (5, .int x5), (6, .int x6)]) (dd TX12_pass_2 32 rfl) (by decide) (by first | rfl | (simp only [List.filter, cat_rf]; rfl)) ?_
    refine ok_aload_n (dd TX12_pass_2 33 rfl) 2 rfl ?_
    refine ok_gP fl_RX12_28 rfl (dd TX12_pass_2 34 rfl) (fun v28 => ?_)
    refine ok_iload_n (dd TX12_pass_2 35 rfl) 4 rfl ?_
    refine ok_dup2_11 (dd TX12_pass_2 36 rfl) (by first | rfl | exact cat_rf _) (by first | rfl | exact cat_rf _) ?_
    refine ok_lL (kd := 209) (by decide) rfl (dd TX12_pass_2 37 rfl) (fun v29 => ?_)
    refine ok_iload (dd TX12_pass_2 38 rfl) 0 rfl ?_
    refine ok_i2l (dd TX12_pass_2 39 rfl) ?_
    refine ok_lsub (dd TX12_pass_3 0 rfl) ?_
    refine ok_stL (kd := 209) (by decide) rfl (dd TX12_pass_3 1 rfl) ?_
    refine ok_aload_n (dd TX12_pass_3 2 rfl) 2 rfl ?_
    refine ok_gP fl_RX12_28 rfl (dd TX12_pass_3 3 rfl) (fun v30 => ?_)
    refine ok_iload (dd TX12_pass_3 4 rfl) 1 rfl ?_
    refine ok_dup2_11 (dd TX12_pass_3 5 rfl) (by first | rfl | exact cat_rf _) (by first | rfl | exact cat_rf _) ?_
    refine ok_lL (kd := 209) (by decide) rfl (dd TX12_pass_3 6 rfl) (fun v31 => ?_)
    refine ok_iload (dd TX12_pass_3 7 rfl) 0 rfl ?_
    refine ok_i2l (dd TX12_pass_3 8 rfl) ?_
    refine ok_ladd (dd TX12_pass_3 9 rfl) ?_
    refine ok_stL (kd := 209) (by decide) rfl (dd TX12_pass_3 10 rfl) ?_
    refine ok_aload_n (dd TX12_pass_3 11 rfl) 2 rfl ?_
    refine ok_gP fl_RX12_81 rfl (dd TX12_pass_3 12 rfl) (fun v32 => ?_)
    refine ok_iload_n (dd TX12_pass_3 13 rfl) 3 rfl ?_
    refine ok_iconst (v := (1 : Int32)) (dd TX12_pass_3 14 rfl) (by decide) ?_
    refine ok_iadd (dd TX12_pass_3 15 rfl) ?_
    refine ok_iload (dd TX12_pass_3 16 rfl) 1 rfl ?_
    refine ok_stI (kd := 344) (by decide) rfl (dd TX12_pass_3 17 rfl) ?_
    refine ok_aload_n (dd TX12_pass_3 18 rfl) 2 rfl ?_
    refine ok_gP fl_RX12_81 rfl (dd TX12_pass_3 19 rfl) (fun v33 => ?_)
    refine ok_iload_n (dd TX12_pass_3 20 rfl) 3 rfl ?_
    refine ok_iconst (v := (4 : Int32)) (dd TX12_pass_3 21 rfl) (by decide) ?_
    refine ok_iadd (dd TX12_pass_3 22 rfl) ?_
    refine ok_dup2_11 (dd TX12_pass_3 23 rfl) (by first | rfl | exact cat_rf _) (by first | rfl | exact cat_rf _) ?_
    refine ok_lI (kd := 344) (by decide) rfl (dd TX12_pass_3 24 rfl) (fun v34 => ?_)
    refine ok_iconst (v := (1 : Int32)) (dd TX12_pass_3 25 rfl) (by decide) ?_
    refine ok_iadd (dd TX12_pass_3 26 rfl) ?_
    refine ok_stI (kd := 344) (by decide) rfl (dd TX12_pass_3 27 rfl) ?_
    refine ok_aload_n (dd TX12_pass_3 28 rfl) 2 rfl ?_
    refine ok_gP fl_RX12_81 rfl (dd TX12_pass_3 29 rfl) (fun v35 => ?_)
    refine ok_iload_n (dd TX12_pass_3 30 rfl) 3 rfl ?_
    refine ok_bipush (v := (6 : Int32)) (dd TX12_pass_3 31 rfl) (by decide) ?_
    refine ok_iadd (dd TX12_pass_3 32 rfl) ?_
    refine ok_dup2_11 (dd TX12_pass_3 33 rfl) (by first | rfl | exact cat_rf _) (by first | rfl | exact cat_rf _) ?_
    refine ok_lI (kd := 344) (by decide) rfl (dd TX12_pass_3 34 rfl) (fun v36 => ?_)
    refine ok_iconst (v := (1 : Int32)) (dd TX12_pass_3 35 rfl) (by decide) ?_
    refine ok_iload (dd TX12_pass_3 36 rfl) 1 rfl ?_
    refine ok_ishl (dd TX12_pass_3 37 rfl) ?_
    refine ok_ior (dd TX12_pass_3 38 rfl) ?_
    refine ok_stI (kd := 344) (by decide) rfl (dd TX12_pass_3 39 rfl) ?_
    refine ok_iload (dd TX12_pass_4 0 rfl) 1 rfl ?_
    exact ok_ireturn (dd TX12_pass_4 1 rfl) rfl
  · refine ok_iconst (v := (-1 : Int32)) (dd TX12_pass_2 8 rfl) (by decide) ?_
    exact ok_ireturn (dd TX12_pass_2 9 rfl) rfl
def F_X12_pass_L97 : Nat → Nat → Int32 → Int32 → Int32 → Int32 → Int32 → M Int32
  | 0 => fun _ _ _ _ _ _ => fl
  | n + 1 => fun this x2 x3 x4 x5 x6 => bn (gP 12 18 (some this)) fun v13 => bn (lI 264 v13 x4) fun v14 => if v14 ≤ x6 then F_X12_pass_L141 this x2 x3 x4 x5 x6 else bn (gP 12 33 (some this)) fun v15 => bn (lI 344 v15 (x2 + (6 : Int32))) fun v16 => bn (gP 12 16 (some this)) fun v17 => bn (lI 248 v17 (x5 + x6)) fun v18 => if ¬ ((v16 >>> (v18 &&& 31)) &&& (1 : Int32)) = (1 : Int32) then F_X12_pass_L141 this x2 x3 x4 x5 x6 else F_X12_pass_L97 n this x2 x3 x4 x5 (x6 + (1 : Int32))
set_option maxRecDepth 100000 in
theorem O_X12_pass_L97 (Γ : Gam) (n : Nat) : ∀ (this : Nat) (x2 : Int32) (x3 : Int32) (x4 : Int32) (x5 : Int32) (x6 : Int32), Ok Γ mX12_pass 102 (qo Γ vI) 97 [(0, va_rf (some this)), (2, .int x2), (3, .int x3), (4, .int x4), (5, .int x5), (6, .int x6)] [] (F_X12_pass_L97 n this x2 x3 x4 x5 x6) := by
  induction n with
  | zero => intro this x2 x3 x4 x5 x6; exact ok_fl
  | succ n ih =>
    intro this x2 x3 x4 x5 x6
    rw [F_X12_pass_L97]
    refine ok_iload (dd TX12_pass_1 17 rfl) 5 rfl ?_
    refine ok_aload_n (dd TX12_pass_1 18 rfl) 0 rfl ?_
    refine ok_gP fl_RX12_51 rfl (dd TX12_pass_1 19 rfl) (fun v13 => ?_)
    refine ok_iload (dd TX12_pass_1 20 rfl) 3 rfl ?_
    refine ok_lI (kd := 264) (by decide) rfl (dd TX12_pass_1 21 rfl) (fun v14 => ?_)
    refine ok_icmp_ge (tgt := 141) (dd TX12_pass_1 22 rfl) (by decide) ?_ ?_
    · exact O_X12_pass_L141 Γ this x2 x3 x4 x5 x6
    · refine ok_aload_n (dd TX12_pass_1 23 rfl) 0 rfl ?_
      refine ok_gP fl_RX12_81 rfl (dd TX12_pass_1 24 rfl) (fun v15 => ?_)
      refine ok_iload_n (dd TX12_pass_1 25 rfl) 1 rfl ?_
      refine ok_bipush (v := (6 : Int32)) (dd TX12_pass_1 26 rfl) (by decide) ?_
      refine ok_iadd (dd TX12_pass_1 27 rfl) ?_
      refine ok_lI (kd := 344) (by decide) rfl (dd TX12_pass_1 28 rfl) (fun v16 => ?_)
      refine ok_aload_n (dd TX12_pass_1 29 rfl) 0 rfl ?_
      refine ok_gP fl_RX12_45 rfl (dd TX12_pass_1 30 rfl) (fun v17 => ?_)
      refine ok_iload (dd TX12_pass_1 31 rfl) 4 rfl ?_
      refine ok_iload (dd TX12_pass_1 32 rfl) 5 rfl ?_
      refine ok_iadd (dd TX12_pass_1 33 rfl) ?_
      refine ok_lI (kd := 248) (by decide) rfl (dd TX12_pass_1 34 rfl) (fun v18 => ?_)
      refine ok_ishr (dd TX12_pass_1 35 rfl) ?_
      refine ok_iconst (v := (1 : Int32)) (dd TX12_pass_1 36 rfl) (by decide) ?_
      refine ok_iand (dd TX12_pass_1 37 rfl) ?_
      refine ok_iconst (v := (1 : Int32)) (dd TX12_pass_1 38 rfl) (by decide) ?_
      refine ok_icmp_ne (tgt := 141) (dd TX12_pass_1 39 rfl) (by decide) ?_ ?_
      · exact O_X12_pass_L141 Γ this x2 x3 x4 x5 x6
      · refine ok_iinc (lv' := [(6, .int (x6 + (1 : Int32))), (0, va_rf (some this)), (2, .int x2), (3, .int x3), (4, .int x4), (5, .int x5)]) (dd TX12_pass_2 0 rfl) 5 rfl (congrArg (fun q : Int32 => x6 + q) (show Int32.ofInt (1) = (1 : Int32) from by decide)) (by decide) (by first | rfl | (simp only [List.filter, cat_rf]; rfl)) ?_
        refine ok_goto (tgt := 97) (dd TX12_pass_2 1 rfl) (by decide) ?_
        refine ok_sub [1, 2, 3, 4, 5, 0] rfl ?_
        exact ih this x2 x3 x4 x5 (x6 + (1 : Int32))
def F_X12_pass_L82 (this : Nat) (x2 : Int32) (x3 : Int32) (x4 : Int32) (x5 : Int32) (x6 : Int32) : M Int32 := bn (gP 12 18 (some this)) fun v11 => bn (lI 264 v11 x4) fun v12 => if ¬ x6 = v12 then F_X12_pass_L97 FU this x2 x3 x4 x5 x6 else F_X12_pass_L97 FU this x2 x3 x4 x5 (0 : Int32)
set_option maxRecDepth 100000 in
theorem O_X12_pass_L82 (Γ : Gam) (this : Nat) (x2 : Int32) (x3 : Int32) (x4 : Int32) (x5 : Int32) (x6 : Int32) : Ok Γ mX12_pass 102 (qo Γ vI) 82 [(0, va_rf (some this)), (2, .int x2), (3, .int x3), (4, .int x4), (5, .int x5), (6, .int x6)] [] (F_X12_pass_L82 this x2 x3 x4 x5 x6) := by
  unfold F_X12_pass_L82
  refine ok_iload (dd TX12_pass_1 9 rfl) 5 rfl ?_
  refine ok_aload_n (dd TX12_pass_1 10 rfl) 0 rfl ?_
  refine ok_gP fl_RX12_51 rfl (dd TX12_pass_1 11 rfl) (fun v11 => ?_)
  refine ok_iload (dd TX12_pass_1 12 rfl) 3 rfl ?_
  refine ok_lI (kd := 264) (by decide) rfl (dd TX12_pass_1 13 rfl) (fun v12 => ?_)
  refine ok_icmp_ne (tgt := 97) (dd TX12_pass_1 14 rfl) (by decide) ?_ ?_
  · exact O_X12_pass_L97 Γ FU this x2 x3 x4 x5 x6
  · refine ok_iconst (v := (0 : Int32)) (dd TX12_pass_1 15 rfl) (by decide) ?_
    refine ok_istore (lv' := [(6, .int (0 : Int32)), (0, va_rf (some this)), (2, .int x2), (3, .int x3), (4, .int x4), (5, .int x5)]) (dd TX12_pass_1 16 rfl) (by decide) (by first | rfl | (simp only [List.filter, cat_rf]; rfl)) ?_
    refine ok_sub [1, 2, 3, 4, 5, 0] rfl ?_
    exact O_X12_pass_L97 Γ FU this x2 x3 x4 x5 (0 : Int32)
def F_X12_pass_L50 : Nat → Nat → Int32 → Int32 → Int32 → Int32 → Int32 → M Int32
  | 0 => fun _ _ _ _ _ _ => fl
  | n + 1 => fun this x2 x3 x4 x5 x6 => bn (gP 12 18 (some this)) fun v7 => bn (lI 264 v7 x4) fun v8 => if v8 ≤ x6 then F_X12_pass_L82 this x2 x3 x4 x5 x6 else bn (gP 12 16 (some this)) fun v9 => bn (lI 248 v9 (x5 + x6)) fun v10 => if v10 = x3 then F_X12_pass_L82 this x2 x3 x4 x5 x6 else F_X12_pass_L50 n this x2 x3 x4 x5 (x6 + (1 : Int32))
set_option maxRecDepth 100000 in
theorem O_X12_pass_L50 (Γ : Gam) (n : Nat) : ∀ (this : Nat) (x2 : Int32) (x3 : Int32) (x4 : Int32) (x5 : Int32) (x6 : Int32), Ok Γ mX12_pass 102 (qo Γ vI) 50 [(0, va_rf (some this)), (2, .int x2), (3, .int x3), (4, .int x4), (5, .int x5), (6, .int x6)] [] (F_X12_pass_L50 n this x2 x3 x4 x5 x6) := by
  induction n with
  | zero => intro this x2 x3 x4 x5 x6; exact ok_fl
  | succ n ih =>
    intro this x2 x3 x4 x5 x6
    rw [F_X12_pass_L50]
    refine ok_iload (dd TX12_pass_0 33 rfl) 5 rfl ?_
    refine ok_aload_n (dd TX12_pass_0 34 rfl) 0 rfl ?_
    refine ok_gP fl_RX12_51 rfl (dd TX12_pass_0 35 rfl) (fun v7 => ?_)
    refine ok_iload (dd TX12_pass_0 36 rfl) 3 rfl ?_
    refine ok_lI (kd := 264) (by decide) rfl (dd TX12_pass_0 37 rfl) (fun v8 => ?_)
    refine ok_icmp_ge (tgt := 82) (dd TX12_pass_0 38 rfl) (by decide) ?_ ?_
    · exact O_X12_pass_L82 Γ this x2 x3 x4 x5 x6
    · refine ok_aload_n (dd TX12_pass_0 39 rfl) 0 rfl ?_
      refine ok_gP fl_RX12_45 rfl (dd TX12_pass_1 0 rfl) (fun v9 => ?_)
      refine ok_iload (dd TX12_pass_1 1 rfl) 4 rfl ?_
      refine ok_iload (dd TX12_pass_1 2 rfl) 5 rfl ?_
      refine ok_iadd (dd TX12_pass_1 3 rfl) ?_
      refine ok_lI (kd := 248) (by decide) rfl (dd TX12_pass_1 4 rfl) (fun v10 => ?_)
      refine ok_iload_n (dd TX12_pass_1 5 rfl) 2 rfl ?_
      refine ok_icmp_eq (tgt := 82) (dd TX12_pass_1 6 rfl) (by decide) ?_ ?_
      · exact O_X12_pass_L82 Γ this x2 x3 x4 x5 x6
      · refine ok_iinc (lv' := [(6, .int (x6 + (1 : Int32))), (0, va_rf (some this)), (2, .int x2), (3, .int x3), (4, .int x4), (5, .int x5)]) (dd TX12_pass_1 7 rfl) 5 rfl (congrArg (fun q : Int32 => x6 + q) (show Int32.ofInt (1) = (1 : Int32) from by decide)) (by decide) (by first | rfl | (simp only [List.filter, cat_rf]; rfl)) ?_
        refine ok_goto (tgt := 50) (dd TX12_pass_1 8 rfl) (by decide) ?_
        refine ok_sub [1, 2, 3, 4, 5, 0] rfl ?_
        exact ih this x2 x3 x4 x5 (x6 + (1 : Int32))
def F_X12_pass (this : Nat) (p0 : Int32) : M Int32 := bn (wI 12 35 (some this) (0 : Int32)) fun _ => bn (pRc 12 (some this)) fun b1 => bn (F_X12_isHeld b1 p0) fun v2 => if ¬ v2 = 0 then bn (gP 12 33 (some this)) fun v3 => bn (lI 344 v3 (((7 : Int32) * p0) + (1 : Int32))) fun v4 => bn (gP 12 33 (some this)) fun v5 => bn (lI 344 v5 (((7 : Int32) * p0) + (5 : Int32))) fun v6 => F_X12_pass_L50 FU this ((7 : Int32) * p0) v4 v6 ((1600 : Int32) * v6) (0 : Int32) else rt (-1 : Int32)
set_option maxRecDepth 100000 in
theorem C_X12_pass (Γ : Gam) (this : Nat) (p0 : Int32) : Ct Γ mX12_pass 102 vI [va_rf (some this), .int p0] (F_X12_pass this p0) := by
  refine ct_in (lv := [(0, va_rf (some this)), (1, .int p0)]) (by decide) (by first | rfl | (simp only [lv_args, cat_rf]; rfl)) (by first | exact Nat.le_of_ble_eq_true rfl | (rw [lg_len]; simp only [List.map_cons, List.map_nil, cat_rf]; exact Nat.le_of_ble_eq_true rfl)) ?_
  unfold F_X12_pass
  refine ok_aload_n (dd TX12_pass_0 0 rfl) 0 rfl ?_
  refine ok_iconst (v := (0 : Int32)) (dd TX12_pass_0 1 rfl) (by decide) ?_
  refine ok_wI fl_RX12_90 (Or.inl rfl) (tyX12_ok 35 (by decide)) (by decide) rfl (dd TX12_pass_0 2 rfl) ?_
  refine ok_aload_n (dd TX12_pass_0 3 rfl) 0 rfl ?_
  refine ok_iload_n (dd TX12_pass_0 4 rfl) 1 rfl ?_
  refine ok_callVI (cn := 12) [.int p0] [] (fun b1 => C_X12_isHeld Γ b1 p0) rfl cy_X12_isHeld ml_RX12_318 im_X12_isHeld se_X12_isHeld (by decide) (Nat.le_of_ble_eq_true rfl) rfl (dd TX12_pass_0 5 rfl) (fun v2 => ?_)
  refine ok_if_ne (tgt := 15) (dd TX12_pass_0 6 rfl) (by decide) ?_ ?_
  · refine ok_bipush (v := (7 : Int32)) (dd TX12_pass_0 9 rfl) (by decide) ?_
    refine ok_iload_n (dd TX12_pass_0 10 rfl) 1 rfl ?_
    refine ok_imul (dd TX12_pass_0 11 rfl) ?_
    refine ok_istore_n (lv' := [(2, .int ((7 : Int32) * p0)), (0, va_rf (some this)), (1, .int p0)]) (dd TX12_pass_0 12 rfl) (by decide) (by first | rfl | (simp only [List.filter, cat_rf]; rfl)) ?_
    refine ok_aload_n (dd TX12_pass_0 13 rfl) 1 rfl ?_
    refine ok_gP fl_RX12_81 rfl (dd TX12_pass_0 14 rfl) (fun v3 => ?_)
    refine ok_iload_n (dd TX12_pass_0 15 rfl) 0 rfl ?_
    refine ok_iconst (v := (1 : Int32)) (dd TX12_pass_0 16 rfl) (by decide) ?_
    refine ok_iadd (dd TX12_pass_0 17 rfl) ?_
    refine ok_lI (kd := 344) (by decide) rfl (dd TX12_pass_0 18 rfl) (fun v4 => ?_)
    refine ok_istore_n (lv' := [(3, .int v4), (2, .int ((7 : Int32) * p0)), (0, va_rf (some this)), (1, .int p0)]) (dd TX12_pass_0 19 rfl) (by decide) (by first | rfl | (simp only [List.filter, cat_rf]; rfl)) ?_
    refine ok_aload_n (dd TX12_pass_0 20 rfl) 2 rfl ?_
    refine ok_gP fl_RX12_81 rfl (dd TX12_pass_0 21 rfl) (fun v5 => ?_)
    refine ok_iload_n (dd TX12_pass_0 22 rfl) 1 rfl ?_
    refine ok_iconst (v := (5 : Int32)) (dd TX12_pass_0 23 rfl) (by decide) ?_
    refine ok_iadd (dd TX12_pass_0 24 rfl) ?_
    refine ok_lI (kd := 344) (by decide) rfl (dd TX12_pass_0 25 rfl) (fun v6 => ?_)
    refine ok_istore (lv' := [(4, .int v6), (3, .int v4), (2, .int ((7 : Int32) * p0)), (0, va_rf (some this)), (1, .int p0)]) (dd TX12_pass_0 26 rfl) (by decide) (by first | rfl | (simp only [List.filter, cat_rf]; rfl)) ?_
    refine ok_sipush (v := (1600 : Int32)) (dd TX12_pass_0 27 rfl) (by decide) ?_
    refine ok_iload (dd TX12_pass_0 28 rfl) 0 rfl ?_
    refine ok_imul (dd TX12_pass_0 29 rfl) ?_
    refine ok_istore (lv' := [(5, .int ((1600 : Int32) * v6)), (4, .int v6), (3, .int v4), (2, .int ((7 : Int32) * p0)), (0, va_rf (some this)), (1, .int p0)]) (dd TX12_pass_0 30 rfl) (by decide) (by first | rfl | (simp only [List.filter, cat_rf]; rfl)) ?_
    refine ok_iconst (v := (0 : Int32)) (dd TX12_pass_0 31 rfl) (by decide) ?_
    refine ok_istore (lv' := [(6, .int (0 : Int32)), (5, .int ((1600 : Int32) * v6)), (4, .int v6), (3, .int v4), (2, .int ((7 : Int32) * p0)), (0, va_rf (some this)), (1, .int p0)]) (dd TX12_pass_0 32 rfl) (by decide) (by first | rfl | (simp only [List.filter, cat_rf]; rfl)) ?_
    refine ok_sub [5, 4, 3, 2, 1, 0] rfl ?_
    exact O_X12_pass_L50 Γ FU this ((7 : Int32) * p0) v4 v6 ((1600 : Int32) * v6) (0 : Int32)
  · refine ok_iconst (v := (-1 : Int32)) (dd TX12_pass_0 7 rfl) (by decide) ?_
    exact ok_ireturn (dd TX12_pass_0 8 rfl) rfl
def F_X12_keep_L102 (this : Nat) (x2 : Int32) : M Int32 := bn (gP 12 33 (some this)) fun v32 => bn (stI 344 v32 x2 (3 : Int32)) fun _ => rt (0 : Int32)
set_option maxRecDepth 100000 in
theorem O_X12_keep_L102 (Γ : Gam) (this : Nat) (x2 : Int32) : Ok Γ mX12_keep 102 (qo Γ vI) 102 [(0, va_rf (some this)), (2, .int x2)] [] (F_X12_keep_L102 this x2) := by
  unfold F_X12_keep_L102
  refine ok_aload_n (dd TX12_keep_1 28 rfl) 0 rfl ?_
  refine ok_gP fl_RX12_81 rfl (dd TX12_keep_1 29 rfl) (fun v32 => ?_)
  refine ok_iload_n (dd TX12_keep_1 30 rfl) 1 rfl ?_
  refine ok_iconst (v := (3 : Int32)) (dd TX12_keep_1 31 rfl) (by decide) ?_
  refine ok_stI (kd := 344) (by decide) rfl (dd TX12_keep_1 32 rfl) ?_
  refine ok_iconst (v := (0 : Int32)) (dd TX12_keep_1 33 rfl) (by decide) ?_
  exact ok_ireturn (dd TX12_keep_1 34 rfl) rfl
def F_X12_keep (this : Nat) (p0 : Int32) : M Int32 := bn (wI 12 35 (some this) (0 : Int32)) fun _ => bn (pRc 12 (some this)) fun b1 => bn (F_X12_isHeld b1 p0) fun v2 => if ¬ v2 = 0 then bn (gP 12 33 (some this)) fun v3 => bn (lI 344 v3 (((7 : Int32) * p0) + (1 : Int32))) fun v4 => bn (gP 12 33 (some this)) fun v5 => bn (lI 344 v5 (((7 : Int32) * p0) + (2 : Int32))) fun v6 => bn (gP 12 33 (some this)) fun v7 => bn (lI 344 v7 (((7 : Int32) * p0) + (3 : Int32))) fun v8 => bn (gP 12 33 (some this)) fun v9 => bn (lI 344 v9 (((7 : Int32) * p0) + (5 : Int32))) fun v10 => bn (gP 12 31 (some this)) fun v11 => bn (stI 336 v11 (((4 : Int32) * v8) + (3 : Int32)) (1 : Int32)) fun _ => bn (gP 12 14 (some this)) fun v12 => bn (lI 232 v12 (((6 : Int32) * v4) + v10)) fun v13 => if v13 ≤ 0 then F_X12_keep_L102 this ((7 : Int32) * p0) else bn (gP 12 14 (some this)) fun v14 => bn (lI 232 v14 (((6 : Int32) * v6) + v10)) fun v15 => if v15 < 0 then bn (pRc 12 (some this)) fun b16 => bn (F_X12_latest b16 v10) fun v17 => bn (pRc 12 (some this)) fun b18 => bn (F_X12_move b18 v6 v4 v10 v17 (1 : Int32)) fun _ => bn (gI 12 24 (some this)) fun v19 => bn (gP 12 31 (some this)) fun v20 => bn (lI 336 v20 ((4 : Int32) * v8)) fun v21 => bn (gP 12 31 (some this)) fun v22 => bn (lI 336 v22 (((4 : Int32) * v8) + (1 : Int32))) fun v23 => bn (pRc 12 (some this)) fun b24 => bn (F_X12_ruleOf b24 (4 : Int32) v19 v10 v17 (0 : Int32) v21 v23) fun v25 => bn (gP 12 11 (some this)) fun v26 => bn (lL 209 v26 v4) fun v27 => bn (stL 209 v26 v4 (v27 - (v17.toInt64 + v25.toInt64))) fun _ => bn (gP 12 11 (some this)) fun v28 => bn (lL 209 v28 v6) fun v29 => bn (stL 209 v28 v6 (v29 + (v17.toInt64 + v25.toInt64))) fun _ => bn (gP 12 31 (some this)) fun v30 => bn (stI 336 v30 (((4 : Int32) * v8) + (2 : Int32)) v4) fun _ => bn (gP 12 33 (some this)) fun v31 => bn (stI 344 v31 ((7 : Int32) * p0) (2 : Int32)) fun _ => rt (1 : Int32) else F_X12_keep_L102 this ((7 : Int32) * p0) else rt (-1 : Int32)
set_option maxRecDepth 100000 in
theorem C_X12_keep (Γ : Gam) (this : Nat) (p0 : Int32) : Ct Γ mX12_keep 102 vI [va_rf (some this), .int p0] (F_X12_keep this p0) := by
  refine ct_in (lv := [(0, va_rf (some this)), (1, .int p0)]) (by decide) (by first | rfl | (simp only [lv_args, cat_rf]; rfl)) (by first | exact Nat.le_of_ble_eq_true rfl | (rw [lg_len]; simp only [List.map_cons, List.map_nil, cat_rf]; exact Nat.le_of_ble_eq_true rfl)) ?_
  unfold F_X12_keep
  refine ok_aload_n (dd TX12_keep_0 0 rfl) 0 rfl ?_
  refine ok_iconst (v := (0 : Int32)) (dd TX12_keep_0 1 rfl) (by decide) ?_
  refine ok_wI fl_RX12_90 (Or.inl rfl) (tyX12_ok 35 (by decide)) (by decide) rfl (dd TX12_keep_0 2 rfl) ?_
  refine ok_aload_n (dd TX12_keep_0 3 rfl) 0 rfl ?_
  refine ok_iload_n (dd TX12_keep_0 4 rfl) 1 rfl ?_
  refine ok_callVI (cn := 12) [.int p0] [] (fun b1 => C_X12_isHeld Γ b1 p0) rfl cy_X12_isHeld ml_RX12_318 im_X12_isHeld se_X12_isHeld (by decide) (Nat.le_of_ble_eq_true rfl) rfl (dd TX12_keep_0 5 rfl) (fun v2 => ?_)
  refine ok_if_ne (tgt := 15) (dd TX12_keep_0 6 rfl) (by decide) ?_ ?_
  · refine ok_bipush (v := (7 : Int32)) (dd TX12_keep_0 9 rfl) (by decide) ?_
    refine ok_iload_n (dd TX12_keep_0 10 rfl) 1 rfl ?_
    refine ok_imul (dd TX12_keep_0 11 rfl) ?_
    refine ok_istore_n (lv' := [(2, .int ((7 : Int32) * p0)), (0, va_rf (some this)), (1, .int p0)]) (dd TX12_keep_0 12 rfl) (by decide) (by first | rfl | (simp only [List.filter, cat_rf]; rfl)) ?_
    refine ok_aload_n (dd TX12_keep_0 13 rfl) 1 rfl ?_
    refine ok_gP fl_RX12_81 rfl (dd TX12_keep_0 14 rfl) (fun v3 => ?_)
    refine ok_iload_n (dd TX12_keep_0 15 rfl) 0 rfl ?_
    refine ok_iconst (v := (1 : Int32)) (dd TX12_keep_0 16 rfl) (by decide) ?_
    refine ok_iadd (dd TX12_keep_0 17 rfl) ?_
    refine ok_lI (kd := 344) (by decide) rfl (dd TX12_keep_0 18 rfl) (fun v4 => ?_)
    refine ok_istore_n (lv' := [(3, .int v4), (2, .int ((7 : Int32) * p0)), (0, va_rf (some this)), (1, .int p0)]) (dd TX12_keep_0 19 rfl) (by decide) (by first | rfl | (simp only [List.filter, cat_rf]; rfl)) ?_
    refine ok_aload_n (dd TX12_keep_0 20 rfl) 2 rfl ?_
    refine ok_gP fl_RX12_81 rfl (dd TX12_keep_0 21 rfl) (fun v5 => ?_)
    refine ok_iload_n (dd TX12_keep_0 22 rfl) 1 rfl ?_
    refine ok_iconst (v := (2 : Int32)) (dd TX12_keep_0 23 rfl) (by decide) ?_
    refine ok_iadd (dd TX12_keep_0 24 rfl) ?_
    refine ok_lI (kd := 344) (by decide) rfl (dd TX12_keep_0 25 rfl) (fun v6 => ?_)
    refine ok_istore (lv' := [(4, .int v6), (3, .int v4), (2, .int ((7 : Int32) * p0)), (0, va_rf (some this)), (1, .int p0)]) (dd TX12_keep_0 26 rfl) (by decide) (by first | rfl | (simp only [List.filter, cat_rf]; rfl)) ?_
    refine ok_iconst (v := (4 : Int32)) (dd TX12_keep_0 27 rfl) (by decide) ?_
    refine ok_aload_n (dd TX12_keep_0 28 rfl) 3 rfl ?_
    refine ok_gP fl_RX12_81 rfl (dd TX12_keep_0 29 rfl) (fun v7 => ?_)
    refine ok_iload_n (dd TX12_keep_0 30 rfl) 2 rfl ?_
    refine ok_iconst (v := (3 : Int32)) (dd TX12_keep_0 31 rfl) (by decide) ?_
    refine ok_iadd (dd TX12_keep_0 32 rfl) ?_
    refine ok_lI (kd := 344) (by decide) rfl (dd TX12_keep_0 33 rfl) (fun v8 => ?_)
    refine ok_imul (dd TX12_keep_0 34 rfl) ?_
    refine ok_istore (lv' := [(5, .int ((4 : Int32) * v8)), (4, .int v6), (3, .int v4), (2, .int ((7 : Int32) * p0)), (0, va_rf (some this)), (1, .int p0)]) (dd TX12_keep_0 35 rfl) (by decide) (by first | rfl | (simp only [List.filter, cat_rf]; rfl)) ?_
    refine ok_aload_n (dd TX12_keep_0 36 rfl) 4 rfl ?_
    refine ok_gP fl_RX12_81 rfl (dd TX12_keep_0 37 rfl) (fun v9 => ?_)
    refine ok_iload_n (dd TX12_keep_0 38 rfl) 3 rfl ?_
    refine ok_iconst (v := (5 : Int32)) (dd TX12_keep_0 39 rfl) (by decide) ?_
    refine ok_iadd (dd TX12_keep_1 0 rfl) ?_
    refine ok_lI (kd := 344) (by decide) rfl (dd TX12_keep_1 1 rfl) (fun v10 => ?_)
    refine ok_istore (lv' := [(6, .int v10), (5, .int ((4 : Int32) * v8)), (4, .int v6), (3, .int v4), (2, .int ((7 : Int32) * p0)), (0, va_rf (some this)), (1, .int p0)]) (dd TX12_keep_1 2 rfl) (by decide) (by first | rfl | (simp only [List.filter, cat_rf]; rfl)) ?_
    refine ok_aload_n (dd TX12_keep_1 3 rfl) 5 rfl ?_
    refine ok_gP fl_RX12_78 rfl (dd TX12_keep_1 4 rfl) (fun v11 => ?_)
    refine ok_iload (dd TX12_keep_1 5 rfl) 1 rfl ?_
    refine ok_iconst (v := (3 : Int32)) (dd TX12_keep_1 6 rfl) (by decide) ?_
    refine ok_iadd (dd TX12_keep_1 7 rfl) ?_
    refine ok_iconst (v := (1 : Int32)) (dd TX12_keep_1 8 rfl) (by decide) ?_
    refine ok_stI (kd := 336) (by decide) rfl (dd TX12_keep_1 9 rfl) ?_
    refine ok_aload_n (dd TX12_keep_1 10 rfl) 5 rfl ?_
    refine ok_gP fl_RX12_39 rfl (dd TX12_keep_1 11 rfl) (fun v12 => ?_)
    refine ok_bipush (v := (6 : Int32)) (dd TX12_keep_1 12 rfl) (by decide) ?_
    refine ok_iload_n (dd TX12_keep_1 13 rfl) 3 rfl ?_
    refine ok_imul (dd TX12_keep_1 14 rfl) ?_
    refine ok_iload (dd TX12_keep_1 15 rfl) 0 rfl ?_
    refine ok_iadd (dd TX12_keep_1 16 rfl) ?_
    refine ok_lI (kd := 232) (by decide) rfl (dd TX12_keep_1 17 rfl) (fun v13 => ?_)
    refine ok_if_le (tgt := 102) (dd TX12_keep_1 18 rfl) (by decide) ?_ ?_
    · refine ok_sub [5, 4] rfl ?_
      exact O_X12_keep_L102 Γ this ((7 : Int32) * p0)
    · refine ok_aload_n (dd TX12_keep_1 19 rfl) 5 rfl ?_
      refine ok_gP fl_RX12_39 rfl (dd TX12_keep_1 20 rfl) (fun v14 => ?_)
      refine ok_bipush (v := (6 : Int32)) (dd TX12_keep_1 21 rfl) (by decide) ?_
      refine ok_iload (dd TX12_keep_1 22 rfl) 2 rfl ?_
      refine ok_imul (dd TX12_keep_1 23 rfl) ?_
      refine ok_iload (dd TX12_keep_1 24 rfl) 0 rfl ?_
      refine ok_iadd (dd TX12_keep_1 25 rfl) ?_
      refine ok_lI (kd := 232) (by decide) rfl (dd TX12_keep_1 26 rfl) (fun v15 => ?_)
      refine ok_if_lt (tgt := 111) (dd TX12_keep_1 27 rfl) (by decide) ?_ ?_
      · refine ok_aload_n (dd TX12_keep_1 35 rfl) 5 rfl ?_
        refine ok_iload (dd TX12_keep_1 36 rfl) 0 rfl ?_
        refine ok_callVI (cn := 12) [.int v10] [] (fun b16 => C_X12_latest Γ b16 v10) rfl cy_X12_latest ml_RX12_262 im_X12_latest se_X12_latest (by decide) (Nat.le_of_ble_eq_true rfl) rfl (dd TX12_keep_1 37 rfl) (fun v17 => ?_)
        refine ok_istore (lv' := [(7, .int v17), (6, .int v10), (5, .int ((4 : Int32) * v8)), (4, .int v6), (3, .int v4), (2, .int ((7 : Int32) * p0)), (0, va_rf (some this)), (1, .int p0)]) (dd TX12_keep_1 38 rfl) (by decide) (by first | rfl | (simp only [List.filter, cat_rf]; rfl)) ?_
        refine ok_aload_n (dd TX12_keep_1 39 rfl) 6 rfl ?_
        refine ok_iload (dd TX12_keep_2 0 rfl) 3 rfl ?_
        refine ok_iload_n (dd TX12_keep_2 1 rfl) 4 rfl ?_
        refine ok_iload (dd TX12_keep_2 2 rfl) 1 rfl ?_
        refine ok_iload (dd TX12_keep_2 3 rfl) 0 rfl ?_
        refine ok_iconst (v := (1 : Int32)) (dd TX12_keep_2 4 rfl) (by decide) ?_
        refine ok_callVV (cn := 12) [.int v6, .int v4, .int v10, .int v17, .int (1 : Int32)] [] (fun b18 => C_X12_move Γ b18 v6 v4 v10 v17 (1 : Int32)) rfl cy_X12_move ml_RX12_281 im_X12_move se_X12_move (by decide) (Nat.le_of_ble_eq_true rfl) rfl (dd TX12_keep_2 5 rfl) ?_
        refine ok_iload (dd TX12_keep_2 6 rfl) 0 rfl ?_
        refine ok_i2l (dd TX12_keep_2 7 rfl) ?_
        refine ok_aload_n (dd TX12_keep_2 8 rfl) 6 rfl ?_
        refine ok_iconst (v := (4 : Int32)) (dd TX12_keep_2 9 rfl) (by decide) ?_
        refine ok_aload_n (dd TX12_keep_2 10 rfl) 6 rfl ?_
        refine ok_gI fl_RX12_238 rfl (dd TX12_keep_2 11 rfl) (fun v19 => ?_)
        refine ok_iload (dd TX12_keep_2 12 rfl) 1 rfl ?_
        refine ok_iload (dd TX12_keep_2 13 rfl) 0 rfl ?_
        refine ok_iconst (v := (0 : Int32)) (dd TX12_keep_2 14 rfl) (by decide) ?_
        refine ok_aload_n (dd TX12_keep_2 15 rfl) 6 rfl ?_
        refine ok_gP fl_RX12_78 rfl (dd TX12_keep_2 16 rfl) (fun v20 => ?_)
        refine ok_iload (dd TX12_keep_2 17 rfl) 2 rfl ?_
        refine ok_lI (kd := 336) (by decide) rfl (dd TX12_keep_2 18 rfl) (fun v21 => ?_)
        refine ok_aload_n (dd TX12_keep_2 19 rfl) 6 rfl ?_
        refine ok_gP fl_RX12_78 rfl (dd TX12_keep_2 20 rfl) (fun v22 => ?_)
        refine ok_iload (dd TX12_keep_2 21 rfl) 2 rfl ?_
        refine ok_iconst (v := (1 : Int32)) (dd TX12_keep_2 22 rfl) (by decide) ?_
        refine ok_iadd (dd TX12_keep_2 23 rfl) ?_
        refine ok_lI (kd := 336) (by decide) rfl (dd TX12_keep_2 24 rfl) (fun v23 => ?_)
        refine ok_callVI (cn := 12) [.int (4 : Int32), .int v19, .int v10, .int v17, .int (0 : Int32), .int v21, .int v23] [.long v17.toInt64] (fun b24 => C_X12_ruleOf Γ b24 (4 : Int32) v19 v10 v17 (0 : Int32) v21 v23) rfl cy_X12_ruleOf ml_RX12_231 im_X12_ruleOf se_X12_ruleOf (by decide) (Nat.le_of_ble_eq_true rfl) rfl (dd TX12_keep_2 25 rfl) (fun v25 => ?_)
        refine ok_i2l (dd TX12_keep_2 26 rfl) ?_
        refine ok_ladd (dd TX12_keep_2 27 rfl) ?_
        refine ok_lstore (lv' := [(8, .long (v17.toInt64 + v25.toInt64)), (7, .int v17), (6, .int v10), (5, .int ((4 : Int32) * v8)), (4, .int v6), (3, .int v4), (2, .int ((7 : Int32) * p0)), (0, va_rf (some this)), (1, .int p0)]) (dd TX12_keep_2 28 rfl) (by decide) (by first | rfl | (simp only [List.filter, cat_rf]; rfl)) ?_
        refine ok_aload_n (dd TX12_keep_2 29 rfl) 7 rfl ?_
        refine ok_gP fl_RX12_28 rfl (dd TX12_keep_2 30 rfl) (fun v26 => ?_)
        refine ok_iload_n (dd TX12_keep_2 31 rfl) 5 rfl ?_
        refine ok_dup2_11 (dd TX12_keep_2 32 rfl) (by first | rfl | exact cat_rf _) (by first | rfl | exact cat_rf _) ?_
        refine ok_lL (kd := 209) (by decide) rfl (dd TX12_keep_2 33 rfl) (fun v27 => ?_)
        refine ok_lload (dd TX12_keep_2 34 rfl) 0 rfl ?_
        refine ok_lsub (dd TX12_keep_2 35 rfl) ?_
        refine ok_stL (kd := 209) (by decide) rfl (dd TX12_keep_2 36 rfl) ?_
        refine ok_aload_n (dd TX12_keep_2 37 rfl) 7 rfl ?_
        refine ok_gP fl_RX12_28 rfl (dd TX12_keep_2 38 rfl) (fun v28 => ?_)
        refine ok_iload (dd TX12_keep_2 39 rfl) 4 rfl ?_
        refine ok_dup2_11 (dd TX12_keep_3 0 rfl) (by first | rfl | exact cat_rf _) (by first | rfl | exact cat_rf _) ?_
        refine ok_lL (kd := 209) (by decide) rfl (dd TX12_keep_3 1 rfl) (fun v29 => ?_)
        refine ok_lload (dd TX12_keep_3 2 rfl) 0 rfl ?_
        refine ok_ladd (dd TX12_keep_3 3 rfl) ?_
        refine ok_stL (kd := 209) (by decide) rfl (dd TX12_keep_3 4 rfl) ?_
        refine ok_aload_n (dd TX12_keep_3 5 rfl) 7 rfl ?_
        refine ok_gP fl_RX12_78 rfl (dd TX12_keep_3 6 rfl) (fun v30 => ?_)
        refine ok_iload (dd TX12_keep_3 7 rfl) 3 rfl ?_
        refine ok_iconst (v := (2 : Int32)) (dd TX12_keep_3 8 rfl) (by decide) ?_
        refine ok_iadd (dd TX12_keep_3 9 rfl) ?_
        refine ok_iload_n (dd TX12_keep_3 10 rfl) 5 rfl ?_
        refine ok_stI (kd := 336) (by decide) rfl (dd TX12_keep_3 11 rfl) ?_
        refine ok_aload_n (dd TX12_keep_3 12 rfl) 7 rfl ?_
        refine ok_gP fl_RX12_81 rfl (dd TX12_keep_3 13 rfl) (fun v31 => ?_)
        refine ok_iload_n (dd TX12_keep_3 14 rfl) 6 rfl ?_
        refine ok_iconst (v := (2 : Int32)) (dd TX12_keep_3 15 rfl) (by decide) ?_
        refine ok_stI (kd := 344) (by decide) rfl (dd TX12_keep_3 16 rfl) ?_
        refine ok_iconst (v := (1 : Int32)) (dd TX12_keep_3 17 rfl) (by decide) ?_
        exact ok_ireturn (dd TX12_keep_3 18 rfl) rfl
      · refine ok_sub [5, 4] rfl ?_
        exact O_X12_keep_L102 Γ this ((7 : Int32) * p0)
  · refine ok_iconst (v := (-1 : Int32)) (dd TX12_keep_0 7 rfl) (by decide) ?_
    exact ok_ireturn (dd TX12_keep_0 8 rfl) rfl
def F_X4_advance_L174 (y0 : Int32) (y1 : Option Nat) : M Unit := bn (pRc 4 y1) fun b46 => bn (F_X4_refuseIf b46 y0 (1 : Int32)) fun _ => rt ()
set_option maxRecDepth 100000 in
theorem O_X4_advance_L174 (Γ : Gam) (y0 : Int32) (y1 : Option Nat) : Ok Γ mX4_advance 5 (qo Γ vV) 174 [] [.int y0, va_rf y1] (F_X4_advance_L174 y0 y1) := by
  unfold F_X4_advance_L174
  refine ok_iconst (v := (1 : Int32)) (dd TX4_advance_2 6 rfl) (by decide) ?_
  refine ok_callVV (cn := 4) [.int y0, .int (1 : Int32)] [] (fun b46 => C_X4_refuseIf Γ b46 y0 (1 : Int32)) rfl cy_X4_refuseIf ml_RX4_52 im_X4_refuseIf se_X4_refuseIf (by decide) (Nat.le_of_ble_eq_true rfl) rfl (dd TX4_advance_2 7 rfl) ?_
  refine ok_goto (tgt := 252) (dd TX4_advance_2 8 rfl) (by decide) ?_
  exact ok_return (dd TX4_advance_3 5 rfl) rfl
def F_X4_advance_L144 (this : Nat) : M Unit := bn (gI 4 5 (some this)) fun v41 => bn (gI 4 4 (some this)) fun v42 => bn (pRc 4 (some this)) fun b43 => bn (F_X4_wordFrom b43 v41 v42) fun v44 => bn (wI 4 6 (some this) v44) fun _ => bn (gI 4 6 (some this)) fun v45 => if ¬ v45 = (-1 : Int32) then F_X4_advance_L174 (0 : Int32) (some this) else F_X4_advance_L174 (1 : Int32) (some this)
set_option maxRecDepth 100000 in
theorem O_X4_advance_L144 (Γ : Gam) (this : Nat) : Ok Γ mX4_advance 5 (qo Γ vV) 144 [(0, va_rf (some this))] [] (F_X4_advance_L144 this) := by
  unfold F_X4_advance_L144
  refine ok_aload_n (dd TX4_advance_1 30 rfl) 0 rfl ?_
  refine ok_aload_n (dd TX4_advance_1 31 rfl) 0 rfl ?_
  refine ok_aload_n (dd TX4_advance_1 32 rfl) 0 rfl ?_
  refine ok_gI fl_RX4_111 rfl (dd TX4_advance_1 33 rfl) (fun v41 => ?_)
  refine ok_aload_n (dd TX4_advance_1 34 rfl) 0 rfl ?_
  refine ok_gI fl_RX4_35 rfl (dd TX4_advance_1 35 rfl) (fun v42 => ?_)
  refine ok_callVI (cn := 4) [.int v41, .int v42] [va_rf (some this)] (fun b43 => C_X4_wordFrom Γ b43 v41 v42) rfl cy_X4_wordFrom ml_RX4_118 im_X4_wordFrom se_X4_wordFrom (by decide) (Nat.le_of_ble_eq_true rfl) rfl (dd TX4_advance_1 36 rfl) (fun v44 => ?_)
  refine ok_wI fl_RX4_38 (Or.inl rfl) (tyX4_ok 6 (by decide)) (by decide) rfl (dd TX4_advance_1 37 rfl) ?_
  refine ok_aload_n (dd TX4_advance_1 38 rfl) 0 rfl ?_
  refine ok_aload_n (dd TX4_advance_1 39 rfl) 0 rfl ?_
  refine ok_gI fl_RX4_38 rfl (dd TX4_advance_2 0 rfl) (fun v45 => ?_)
  refine ok_iconst (v := (-1 : Int32)) (dd TX4_advance_2 1 rfl) (by decide) ?_
  refine ok_icmp_ne (tgt := 173) (dd TX4_advance_2 2 rfl) (by decide) ?_ ?_
  · refine ok_iconst (v := (0 : Int32)) (dd TX4_advance_2 5 rfl) (by decide) ?_
    refine ok_sub [] rfl ?_
    exact O_X4_advance_L174 Γ (0 : Int32) (some this)
  · refine ok_iconst (v := (1 : Int32)) (dd TX4_advance_2 3 rfl) (by decide) ?_
    refine ok_goto (tgt := 174) (dd TX4_advance_2 4 rfl) (by decide) ?_
    refine ok_sub [] rfl ?_
    exact O_X4_advance_L174 Γ (1 : Int32) (some this)
def F_X4_advance_L105 : Nat → Nat → M Unit
  | 0 => fun _ => fl
  | n + 1 => fun this => bn (gI 4 4 (some this)) fun v34 => bn (gI 4 1 (some this)) fun v35 => if v35 ≤ v34 then F_X4_advance_L144 this else bn (gP 4 0 (some this)) fun v36 => bn (gI 4 4 (some this)) fun v37 => bn (lI 115 v36 v37) fun v38 => bn (F_X4_isLetter v38) fun v39 => if v39 = 0 then F_X4_advance_L144 this else bn (gI 4 4 (some this)) fun v40 => bn (wI 4 4 (some this) (v40 + (1 : Int32))) fun _ => F_X4_advance_L105 n this
set_option maxRecDepth 100000 in
theorem O_X4_advance_L105 (Γ : Gam) (n : Nat) : ∀ (this : Nat), Ok Γ mX4_advance 5 (qo Γ vV) 105 [(0, va_rf (some this))] [] (F_X4_advance_L105 n this) := by
  induction n with
  | zero => intro this; exact ok_fl
  | succ n ih =>
    intro this
    rw [F_X4_advance_L105]
    refine ok_aload_n (dd TX4_advance_1 11 rfl) 0 rfl ?_
    refine ok_gI fl_RX4_35 rfl (dd TX4_advance_1 12 rfl) (fun v34 => ?_)
    refine ok_aload_n (dd TX4_advance_1 13 rfl) 0 rfl ?_
    refine ok_gI fl_RX4_19 rfl (dd TX4_advance_1 14 rfl) (fun v35 => ?_)
    refine ok_icmp_ge (tgt := 144) (dd TX4_advance_1 15 rfl) (by decide) ?_ ?_
    · exact O_X4_advance_L144 Γ this
    · refine ok_aload_n (dd TX4_advance_1 16 rfl) 0 rfl ?_
      refine ok_gP fl_RX4_11 rfl (dd TX4_advance_1 17 rfl) (fun v36 => ?_)
      refine ok_aload_n (dd TX4_advance_1 18 rfl) 0 rfl ?_
      refine ok_gI fl_RX4_35 rfl (dd TX4_advance_1 19 rfl) (fun v37 => ?_)
      refine ok_lC (kd := 115) (by decide) rfl (dd TX4_advance_1 20 rfl) (fun v38 => ?_)
      refine ok_callSI [.int v38] [] (C_X4_isLetter Γ v38) cy_X4_isLetter ml_RX4_114 sm_X4_isLetter (by decide) (Nat.le_of_ble_eq_true rfl) rfl (dd TX4_advance_1 21 rfl) (fun v39 => ?_)
      refine ok_if_eq (tgt := 144) (dd TX4_advance_1 22 rfl) (by decide) ?_ ?_
      · exact O_X4_advance_L144 Γ this
      · refine ok_aload_n (dd TX4_advance_1 23 rfl) 0 rfl ?_
        refine ok_dup (dd TX4_advance_1 24 rfl) (by first | rfl | exact cat_rf _) ?_
        refine ok_gI fl_RX4_35 rfl (dd TX4_advance_1 25 rfl) (fun v40 => ?_)
        refine ok_iconst (v := (1 : Int32)) (dd TX4_advance_1 26 rfl) (by decide) ?_
        refine ok_iadd (dd TX4_advance_1 27 rfl) ?_
        refine ok_wI fl_RX4_35 (Or.inl rfl) (tyX4_ok 4 (by decide)) (by decide) rfl (dd TX4_advance_1 28 rfl) ?_
        refine ok_goto (tgt := 105) (dd TX4_advance_1 29 rfl) (by decide) ?_
        exact ih this
def F_X4_advance_L62 (this : Nat) : M Unit := bn (gI 4 4 (some this)) fun v10 => bn (wI 4 5 (some this) v10) fun _ => bn (gI 4 4 (some this)) fun v11 => bn (gI 4 1 (some this)) fun v12 => if v11 < v12 then bn (gP 4 0 (some this)) fun v13 => bn (gI 4 4 (some this)) fun v14 => bn (lI 115 v13 v14) fun v15 => bn (F_X4_isLetter v15) fun v16 => if v16 = 0 then bn (gP 4 0 (some this)) fun v17 => bn (gI 4 4 (some this)) fun v18 => bn (lI 115 v17 v18) fun v19 => bn (F_X4_isDigit v19) fun v20 => if v20 = 0 then bn (cK 2) fun r21 => bn (gP 4 0 (some this)) fun v22 => bn (gI 4 4 (some this)) fun v23 => bn (lI 115 v22 v23) fun v24 => bn (kRc r21) fun b25 => bn (F_J0_indexOf_0f7a4 b25 v24) fun v26 => if v26 < 0 then bn (pRc 4 (some this)) fun b27 => bn (F_X4_refuseIf b27 (1 : Int32) (1 : Int32)) fun _ => rt () else bn (gP 4 0 (some this)) fun v28 => bn (gI 4 4 (some this)) fun v29 => bn (lI 115 v28 v29) fun v30 => bn (wI 4 6 (some this) v30) fun _ => bn (gI 4 4 (some this)) fun v31 => bn (wI 4 4 (some this) (v31 + (1 : Int32))) fun _ => rt () else bn (pRc 4 (some this)) fun b32 => bn (F_X4_readNumber b32) fun _ => rt () else F_X4_advance_L105 FU this else bn (wI 4 6 (some this) (17 : Int32)) fun _ => rt ()
set_option maxRecDepth 100000 in
theorem O_X4_advance_L62 (Γ : Gam) (this : Nat) : Ok Γ mX4_advance 5 (qo Γ vV) 62 [(0, va_rf (some this))] [] (F_X4_advance_L62 this) := by
  unfold F_X4_advance_L62
  refine ok_aload_n (dd TX4_advance_0 31 rfl) 0 rfl ?_
  refine ok_aload_n (dd TX4_advance_0 32 rfl) 0 rfl ?_
  refine ok_gI fl_RX4_35 rfl (dd TX4_advance_0 33 rfl) (fun v10 => ?_)
  refine ok_wI fl_RX4_111 (Or.inl rfl) (tyX4_ok 5 (by decide)) (by decide) rfl (dd TX4_advance_0 34 rfl) ?_
  refine ok_aload_n (dd TX4_advance_0 35 rfl) 0 rfl ?_
  refine ok_gI fl_RX4_35 rfl (dd TX4_advance_0 36 rfl) (fun v11 => ?_)
  refine ok_aload_n (dd TX4_advance_0 37 rfl) 0 rfl ?_
  refine ok_gI fl_RX4_19 rfl (dd TX4_advance_0 38 rfl) (fun v12 => ?_)
  refine ok_icmp_lt (tgt := 90) (dd TX4_advance_0 39 rfl) (by decide) ?_ ?_
  · refine ok_aload_n (dd TX4_advance_1 4 rfl) 0 rfl ?_
    refine ok_gP fl_RX4_11 rfl (dd TX4_advance_1 5 rfl) (fun v13 => ?_)
    refine ok_aload_n (dd TX4_advance_1 6 rfl) 0 rfl ?_
    refine ok_gI fl_RX4_35 rfl (dd TX4_advance_1 7 rfl) (fun v14 => ?_)
    refine ok_lC (kd := 115) (by decide) rfl (dd TX4_advance_1 8 rfl) (fun v15 => ?_)
    refine ok_callSI [.int v15] [] (C_X4_isLetter Γ v15) cy_X4_isLetter ml_RX4_114 sm_X4_isLetter (by decide) (Nat.le_of_ble_eq_true rfl) rfl (dd TX4_advance_1 9 rfl) (fun v16 => ?_)
    refine ok_if_eq (tgt := 181) (dd TX4_advance_1 10 rfl) (by decide) ?_ ?_
    · refine ok_aload_n (dd TX4_advance_2 9 rfl) 0 rfl ?_
      refine ok_gP fl_RX4_11 rfl (dd TX4_advance_2 10 rfl) (fun v17 => ?_)
      refine ok_aload_n (dd TX4_advance_2 11 rfl) 0 rfl ?_
      refine ok_gI fl_RX4_35 rfl (dd TX4_advance_2 12 rfl) (fun v18 => ?_)
      refine ok_lC (kd := 115) (by decide) rfl (dd TX4_advance_2 13 rfl) (fun v19 => ?_)
      refine ok_callSI [.int v19] [] (C_X4_isDigit Γ v19) cy_X4_isDigit ml_RX4_122 sm_X4_isDigit (by decide) (Nat.le_of_ble_eq_true rfl) rfl (dd TX4_advance_2 14 rfl) (fun v20 => ?_)
      refine ok_if_eq (tgt := 203) (dd TX4_advance_2 15 rfl) (by decide) ?_ ?_
      · refine ok_ldcS1 rfl (dd TX4_advance_2 19 rfl) (fun r21 => ?_)
        refine ok_aload_n (dd TX4_advance_2 20 rfl) 0 rfl ?_
        refine ok_gP fl_RX4_11 rfl (dd TX4_advance_2 21 rfl) (fun v22 => ?_)
        refine ok_aload_n (dd TX4_advance_2 22 rfl) 0 rfl ?_
        refine ok_gI fl_RX4_35 rfl (dd TX4_advance_2 23 rfl) (fun v23 => ?_)
        refine ok_lC (kd := 115) (by decide) rfl (dd TX4_advance_2 24 rfl) (fun v24 => ?_)
        refine ok_callK [.int v24] [] (fun b25 => C_J0_indexOf_0f7a4 Γ b25 v24) cy_J0_indexOf_0f7a4 ml_RX4_130 im_J0_indexOf_0f7a4 se_J0_indexOf_0f7a4 (by decide) (Nat.le_of_ble_eq_true rfl) rfl (dd TX4_advance_2 25 rfl) (fun v26 => ?_)
        refine ok_if_lt (tgt := 246) (dd TX4_advance_2 26 rfl) (by decide) ?_ ?_
        · refine ok_aload_n (dd TX4_advance_3 1 rfl) 0 rfl ?_
          refine ok_iconst (v := (1 : Int32)) (dd TX4_advance_3 2 rfl) (by decide) ?_
          refine ok_iconst (v := (1 : Int32)) (dd TX4_advance_3 3 rfl) (by decide) ?_
          refine ok_callVV (cn := 4) [.int (1 : Int32), .int (1 : Int32)] [] (fun b27 => C_X4_refuseIf Γ b27 (1 : Int32) (1 : Int32)) rfl cy_X4_refuseIf ml_RX4_52 im_X4_refuseIf se_X4_refuseIf (by decide) (Nat.le_of_ble_eq_true rfl) rfl (dd TX4_advance_3 4 rfl) ?_
          exact ok_return (dd TX4_advance_3 5 rfl) rfl
        · refine ok_aload_n (dd TX4_advance_2 27 rfl) 0 rfl ?_
          refine ok_aload_n (dd TX4_advance_2 28 rfl) 0 rfl ?_
          refine ok_gP fl_RX4_11 rfl (dd TX4_advance_2 29 rfl) (fun v28 => ?_)
          refine ok_aload_n (dd TX4_advance_2 30 rfl) 0 rfl ?_
          refine ok_gI fl_RX4_35 rfl (dd TX4_advance_2 31 rfl) (fun v29 => ?_)
          refine ok_lC (kd := 115) (by decide) rfl (dd TX4_advance_2 32 rfl) (fun v30 => ?_)
          refine ok_wI fl_RX4_38 (Or.inl rfl) (tyX4_ok 6 (by decide)) (by decide) rfl (dd TX4_advance_2 33 rfl) ?_
          refine ok_aload_n (dd TX4_advance_2 34 rfl) 0 rfl ?_
          refine ok_dup (dd TX4_advance_2 35 rfl) (by first | rfl | exact cat_rf _) ?_
          refine ok_gI fl_RX4_35 rfl (dd TX4_advance_2 36 rfl) (fun v31 => ?_)
          refine ok_iconst (v := (1 : Int32)) (dd TX4_advance_2 37 rfl) (by decide) ?_
          refine ok_iadd (dd TX4_advance_2 38 rfl) ?_
          refine ok_wI fl_RX4_35 (Or.inl rfl) (tyX4_ok 4 (by decide)) (by decide) rfl (dd TX4_advance_2 39 rfl) ?_
          refine ok_goto (tgt := 252) (dd TX4_advance_3 0 rfl) (by decide) ?_
          exact ok_return (dd TX4_advance_3 5 rfl) rfl
      · refine ok_aload_n (dd TX4_advance_2 16 rfl) 0 rfl ?_
        refine ok_callVV (cn := 4) [] [] (fun b32 => C_X4_readNumber Γ b32) rfl cy_X4_readNumber ml_RX4_125 im_X4_readNumber se_X4_readNumber (by decide) (Nat.le_of_ble_eq_true rfl) rfl (dd TX4_advance_2 17 rfl) ?_
        refine ok_goto (tgt := 252) (dd TX4_advance_2 18 rfl) (by decide) ?_
        exact ok_return (dd TX4_advance_3 5 rfl) rfl
    · exact O_X4_advance_L105 Γ FU this
  · refine ok_aload_n (dd TX4_advance_1 0 rfl) 0 rfl ?_
    refine ok_bipush (v := (17 : Int32)) (dd TX4_advance_1 1 rfl) (by decide) ?_
    refine ok_wI fl_RX4_38 (Or.inl rfl) (tyX4_ok 6 (by decide)) (by decide) rfl (dd TX4_advance_1 2 rfl) ?_
    refine ok_goto (tgt := 252) (dd TX4_advance_1 3 rfl) (by decide) ?_
    exact ok_return (dd TX4_advance_3 5 rfl) rfl
def F_X4_advance_L49 (k10 : Nat → M Unit) (this : Nat) : M Unit := bn (gI 4 4 (some this)) fun v33 => bn (wI 4 4 (some this) (v33 + (1 : Int32))) fun _ => k10 this
set_option maxRecDepth 100000 in
theorem O_X4_advance_L49 (Γ : Gam) (k10 : Nat → M Unit) (hk10 : ∀ (z0 : Nat), Ok Γ mX4_advance 5 (qo Γ vV) 10 [(0, va_rf (some z0))] [] (k10 z0)) (this : Nat) : Ok Γ mX4_advance 5 (qo Γ vV) 49 [(0, va_rf (some this))] [] (F_X4_advance_L49 k10 this) := by
  unfold F_X4_advance_L49
  refine ok_aload_n (dd TX4_advance_0 24 rfl) 0 rfl ?_
  refine ok_dup (dd TX4_advance_0 25 rfl) (by first | rfl | exact cat_rf _) ?_
  refine ok_gI fl_RX4_35 rfl (dd TX4_advance_0 26 rfl) (fun v33 => ?_)
  refine ok_iconst (v := (1 : Int32)) (dd TX4_advance_0 27 rfl) (by decide) ?_
  refine ok_iadd (dd TX4_advance_0 28 rfl) ?_
  refine ok_wI fl_RX4_35 (Or.inl rfl) (tyX4_ok 4 (by decide)) (by decide) rfl (dd TX4_advance_0 29 rfl) ?_
  refine ok_goto (tgt := 10) (dd TX4_advance_0 30 rfl) (by decide) ?_
  exact hk10 this
def F_X4_advance_L10 : Nat → Nat → M Unit
  | 0 => fun _ => fl
  | n + 1 => fun this => bn (gI 4 4 (some this)) fun v2 => bn (gI 4 1 (some this)) fun v3 => if v3 ≤ v2 then F_X4_advance_L62 this else bn (gP 4 0 (some this)) fun v4 => bn (gI 4 4 (some this)) fun v5 => bn (lI 115 v4 v5) fun v6 => if v6 = (32 : Int32) then F_X4_advance_L49 (F_X4_advance_L10 n) this else bn (gP 4 0 (some this)) fun v7 => bn (gI 4 4 (some this)) fun v8 => bn (lI 115 v7 v8) fun v9 => if ¬ v9 = (10 : Int32) then F_X4_advance_L62 this else F_X4_advance_L49 (F_X4_advance_L10 n) this
set_option maxRecDepth 100000 in
theorem O_X4_advance_L10 (Γ : Gam) (n : Nat) : ∀ (this : Nat), Ok Γ mX4_advance 5 (qo Γ vV) 10 [(0, va_rf (some this))] [] (F_X4_advance_L10 n this) := by
  induction n with
  | zero => intro this; exact ok_fl
  | succ n ih =>
    intro this
    rw [F_X4_advance_L10]
    refine ok_aload_n (dd TX4_advance_0 5 rfl) 0 rfl ?_
    refine ok_gI fl_RX4_35 rfl (dd TX4_advance_0 6 rfl) (fun v2 => ?_)
    refine ok_aload_n (dd TX4_advance_0 7 rfl) 0 rfl ?_
    refine ok_gI fl_RX4_19 rfl (dd TX4_advance_0 8 rfl) (fun v3 => ?_)
    refine ok_icmp_ge (tgt := 62) (dd TX4_advance_0 9 rfl) (by decide) ?_ ?_
    · exact O_X4_advance_L62 Γ this
    · refine ok_aload_n (dd TX4_advance_0 10 rfl) 0 rfl ?_
      refine ok_gP fl_RX4_11 rfl (dd TX4_advance_0 11 rfl) (fun v4 => ?_)
      refine ok_aload_n (dd TX4_advance_0 12 rfl) 0 rfl ?_
      refine ok_gI fl_RX4_35 rfl (dd TX4_advance_0 13 rfl) (fun v5 => ?_)
      refine ok_lC (kd := 115) (by decide) rfl (dd TX4_advance_0 14 rfl) (fun v6 => ?_)
      refine ok_bipush (v := (32 : Int32)) (dd TX4_advance_0 15 rfl) (by decide) ?_
      refine ok_icmp_eq (tgt := 49) (dd TX4_advance_0 16 rfl) (by decide) ?_ ?_
      · exact O_X4_advance_L49 Γ (F_X4_advance_L10 n) ih this
      · refine ok_aload_n (dd TX4_advance_0 17 rfl) 0 rfl ?_
        refine ok_gP fl_RX4_11 rfl (dd TX4_advance_0 18 rfl) (fun v7 => ?_)
        refine ok_aload_n (dd TX4_advance_0 19 rfl) 0 rfl ?_
        refine ok_gI fl_RX4_35 rfl (dd TX4_advance_0 20 rfl) (fun v8 => ?_)
        refine ok_lC (kd := 115) (by decide) rfl (dd TX4_advance_0 21 rfl) (fun v9 => ?_)
        refine ok_bipush (v := (10 : Int32)) (dd TX4_advance_0 22 rfl) (by decide) ?_
        refine ok_icmp_ne (tgt := 62) (dd TX4_advance_0 23 rfl) (by decide) ?_ ?_
        · exact O_X4_advance_L62 Γ this
        · exact O_X4_advance_L49 Γ (F_X4_advance_L10 n) ih this
def F_X4_advance (this : Nat) : M Unit := bn (gI 4 6 (some this)) fun v1 => if ¬ v1 = (18 : Int32) then F_X4_advance_L10 FU this else rt ()
set_option maxRecDepth 100000 in
theorem C_X4_advance (Γ : Gam) (this : Nat) : Ct Γ mX4_advance 5 vV [va_rf (some this)] (F_X4_advance this) := by
  refine ct_in (lv := [(0, va_rf (some this))]) (by decide) (by first | rfl | (simp only [lv_args, cat_rf]; rfl)) (by first | exact Nat.le_of_ble_eq_true rfl | (rw [lg_len]; simp only [List.map_cons, List.map_nil, cat_rf]; exact Nat.le_of_ble_eq_true rfl)) ?_
  unfold F_X4_advance
  refine ok_aload_n (dd TX4_advance_0 0 rfl) 0 rfl ?_
  refine ok_gI fl_RX4_38 rfl (dd TX4_advance_0 1 rfl) (fun v1 => ?_)
  refine ok_bipush (v := (18 : Int32)) (dd TX4_advance_0 2 rfl) (by decide) ?_
  refine ok_icmp_ne (tgt := 10) (dd TX4_advance_0 3 rfl) (by decide) ?_ ?_
  · exact O_X4_advance_L10 Γ FU this
  · exact ok_return (dd TX4_advance_0 4 rfl) rfl
def F_X7_work_L55 (k7 : Nat → Option Nat → Int32 → M Int32) (this : Nat) (x1 : Option Nat) (x2 : Int32) : M Int32 := k7 this x1 (x2 + (1 : Int32))
set_option maxRecDepth 100000 in
theorem O_X7_work_L55 (Γ : Gam) (k7 : Nat → Option Nat → Int32 → M Int32) (hk7 : ∀ (z0 : Nat) (z1 : Option Nat) (z2 : Int32), Ok Γ mX7_work 3 (qo Γ vI) 7 [(0, va_rf (some z0)), (1, va_rf z1), (2, .int z2)] [] (k7 z0 z1 z2)) (this : Nat) (x1 : Option Nat) (x2 : Int32) : Ok Γ mX7_work 3 (qo Γ vI) 55 [(0, va_rf (some this)), (1, va_rf x1), (2, .int x2)] [] (F_X7_work_L55 k7 this x1 x2) := by
  unfold F_X7_work_L55
  refine ok_iinc (lv' := [(2, .int (x2 + (1 : Int32))), (0, va_rf (some this)), (1, va_rf x1)]) (dd TX7_work_0 34 rfl) 2 rfl (congrArg (fun q : Int32 => x2 + q) (show Int32.ofInt (1) = (1 : Int32) from by decide)) (by decide) (by first | rfl | (simp only [List.filter, cat_rf]; rfl)) ?_
  refine ok_goto (tgt := 7) (dd TX7_work_0 35 rfl) (by decide) ?_
  refine ok_sub [1, 2, 0] rfl ?_
  exact hk7 this x1 (x2 + (1 : Int32))
def F_X7_work_L7 : Nat → Nat → Option Nat → Int32 → M Int32
  | 0 => fun _ _ _ => fl
  | n + 1 => fun this x1 x2 => bn (len x1) fun v1 => if v1 ≤ x2 then bn (pRc 7 (some this)) fun b2 => bn (F_X7_pop b2) fun v3 => rt v3 else bn (lI 128 x1 x2) fun v4 => if v4 < 0 then if v4 < (-6 : Int32) then bn (pRc 7 (some this)) fun b5 => bn (F_X7_apply b5 v4) fun _ => F_X7_work_L55 (F_X7_work_L7 n) this x1 x2 else bn (gP 7 1 (some this)) fun v6 => bn (lI 136 v6 ((-1 : Int32) - v4)) fun v7 => bn (pRc 7 (some this)) fun b8 => bn (F_X7_push b8 v7) fun _ => F_X7_work_L55 (F_X7_work_L7 n) this x1 x2 else bn (pRc 7 (some this)) fun b9 => bn (F_X7_push b9 v4) fun _ => F_X7_work_L55 (F_X7_work_L7 n) this x1 x2
set_option maxRecDepth 100000 in
theorem O_X7_work_L7 (Γ : Gam) (n : Nat) : ∀ (this : Nat) (x1 : Option Nat) (x2 : Int32), Ok Γ mX7_work 3 (qo Γ vI) 7 [(0, va_rf (some this)), (1, va_rf x1), (2, .int x2)] [] (F_X7_work_L7 n this x1 x2) := by
  induction n with
  | zero => intro this x1 x2; exact ok_fl
  | succ n ih =>
    intro this x1 x2
    rw [F_X7_work_L7]
    refine ok_iload_n (dd TX7_work_0 5 rfl) 2 rfl ?_
    refine ok_aload_n (dd TX7_work_0 6 rfl) 1 rfl ?_
    refine ok_len (dd TX7_work_0 7 rfl) (fun v1 => ?_)
    refine ok_icmp_ge (tgt := 61) (dd TX7_work_0 8 rfl) (by decide) ?_ ?_
    · refine ok_aload_n (dd TX7_work_0 36 rfl) 0 rfl ?_
      refine ok_callVI (cn := 7) [] [] (fun b2 => C_X7_pop Γ b2) rfl cy_X7_pop ml_RX7_65 im_X7_pop se_X7_pop (by decide) (Nat.le_of_ble_eq_true rfl) rfl (dd TX7_work_0 37 rfl) (fun v3 => ?_)
      exact ok_ireturn (dd TX7_work_0 38 rfl) rfl
    · refine ok_aload_n (dd TX7_work_0 9 rfl) 1 rfl ?_
      refine ok_iload_n (dd TX7_work_0 10 rfl) 2 rfl ?_
      refine ok_lI (kd := 128) (by decide) rfl (dd TX7_work_0 11 rfl) (fun v4 => ?_)
      refine ok_istore_n (lv' := [(3, .int v4), (0, va_rf (some this)), (1, va_rf x1), (2, .int x2)]) (dd TX7_work_0 12 rfl) (by decide) (by first | rfl | (simp only [List.filter, cat_rf]; rfl)) ?_
      refine ok_iload_n (dd TX7_work_0 13 rfl) 0 rfl ?_
      refine ok_if_lt (tgt := 29) (dd TX7_work_0 14 rfl) (by decide) ?_ ?_
      · refine ok_iload_n (dd TX7_work_0 19 rfl) 0 rfl ?_
        refine ok_bipush (v := (-6 : Int32)) (dd TX7_work_0 20 rfl) (by decide) ?_
        refine ok_icmp_lt (tgt := 50) (dd TX7_work_0 21 rfl) (by decide) ?_ ?_
        · refine ok_aload_n (dd TX7_work_0 31 rfl) 1 rfl ?_
          refine ok_iload_n (dd TX7_work_0 32 rfl) 0 rfl ?_
          refine ok_callVV (cn := 7) [.int v4] [] (fun b5 => C_X7_apply Γ b5 v4) rfl cy_X7_apply ml_RX7_62 im_X7_apply se_X7_apply (by decide) (Nat.le_of_ble_eq_true rfl) rfl (dd TX7_work_0 33 rfl) ?_
          refine ok_sub [1, 2, 3] rfl ?_
          exact O_X7_work_L55 Γ (F_X7_work_L7 n) ih this x1 x2
        · refine ok_aload_n (dd TX7_work_0 22 rfl) 1 rfl ?_
          refine ok_aload_n (dd TX7_work_0 23 rfl) 1 rfl ?_
          refine ok_gP fl_RX7_18 rfl (dd TX7_work_0 24 rfl) (fun v6 => ?_)
          refine ok_iconst (v := (-1 : Int32)) (dd TX7_work_0 25 rfl) (by decide) ?_
          refine ok_iload_n (dd TX7_work_0 26 rfl) 0 rfl ?_
          refine ok_isub (dd TX7_work_0 27 rfl) ?_
          refine ok_lI (kd := 136) (by decide) rfl (dd TX7_work_0 28 rfl) (fun v7 => ?_)
          refine ok_callVV (cn := 7) [.int v7] [] (fun b8 => C_X7_push Γ b8 v7) rfl cy_X7_push ml_RX7_58 im_X7_push se_X7_push (by decide) (Nat.le_of_ble_eq_true rfl) rfl (dd TX7_work_0 29 rfl) ?_
          refine ok_goto (tgt := 55) (dd TX7_work_0 30 rfl) (by decide) ?_
          refine ok_sub [1, 2, 3] rfl ?_
          exact O_X7_work_L55 Γ (F_X7_work_L7 n) ih this x1 x2
      · refine ok_aload_n (dd TX7_work_0 15 rfl) 1 rfl ?_
        refine ok_iload_n (dd TX7_work_0 16 rfl) 0 rfl ?_
        refine ok_callVV (cn := 7) [.int v4] [] (fun b9 => C_X7_push Γ b9 v4) rfl cy_X7_push ml_RX7_58 im_X7_push se_X7_push (by decide) (Nat.le_of_ble_eq_true rfl) rfl (dd TX7_work_0 17 rfl) ?_
        refine ok_goto (tgt := 55) (dd TX7_work_0 18 rfl) (by decide) ?_
        refine ok_sub [1, 2, 3] rfl ?_
        exact O_X7_work_L55 Γ (F_X7_work_L7 n) ih this x1 x2
def F_X7_work (this : Nat) (p0 : Option Nat) : M Int32 := bn (wI 7 3 (some this) (0 : Int32)) fun _ => F_X7_work_L7 FU this p0 (0 : Int32)
set_option maxRecDepth 100000 in
theorem C_X7_work (Γ : Gam) (this : Nat) (p0 : Option Nat) : Ct Γ mX7_work 3 vI [va_rf (some this), va_rf p0] (F_X7_work this p0) := by
  refine ct_in (lv := [(0, va_rf (some this)), (1, va_rf p0)]) (by decide) (by first | rfl | (simp only [lv_args, cat_rf]; rfl)) (by first | exact Nat.le_of_ble_eq_true rfl | (rw [lg_len]; simp only [List.map_cons, List.map_nil, cat_rf]; exact Nat.le_of_ble_eq_true rfl)) ?_
  unfold F_X7_work
  refine ok_aload_n (dd TX7_work_0 0 rfl) 0 rfl ?_
  refine ok_iconst (v := (0 : Int32)) (dd TX7_work_0 1 rfl) (by decide) ?_
  refine ok_wI fl_RX7_55 (Or.inl rfl) (tyX7_ok 3 (by decide)) (by decide) rfl (dd TX7_work_0 2 rfl) ?_
  refine ok_iconst (v := (0 : Int32)) (dd TX7_work_0 3 rfl) (by decide) ?_
  refine ok_istore_n (lv' := [(2, .int (0 : Int32)), (0, va_rf (some this)), (1, va_rf p0)]) (dd TX7_work_0 4 rfl) (by decide) (by first | rfl | (simp only [List.filter, cat_rf]; rfl)) ?_
  refine ok_sub [1, 2, 0] rfl ?_
  exact O_X7_work_L7 Γ FU this p0 (0 : Int32)
def F_X4_readOnly_L14 (this : Nat) (y0 : Int32) (y1 : Option Nat) : M Unit := bn (pRc 4 y1) fun b2 => bn (F_X4_refuseIf b2 y0 (2 : Int32)) fun _ => bn (pRc 4 (some this)) fun b3 => bn (F_X4_advance b3) fun _ => rt ()
set_option maxRecDepth 100000 in
theorem O_X4_readOnly_L14 (Γ : Gam) (this : Nat) (y0 : Int32) (y1 : Option Nat) : Ok Γ mX4_readOnly 6 (qo Γ vV) 14 [(0, va_rf (some this))] [.int y0, va_rf y1] (F_X4_readOnly_L14 this y0 y1) := by
  unfold F_X4_readOnly_L14
  refine ok_iconst (v := (2 : Int32)) (dd TX4_readOnly_0 8 rfl) (by decide) ?_
  refine ok_callVV (cn := 4) [.int y0, .int (2 : Int32)] [] (fun b2 => C_X4_refuseIf Γ b2 y0 (2 : Int32)) rfl cy_X4_refuseIf ml_RX4_52 im_X4_refuseIf se_X4_refuseIf (by decide) (Nat.le_of_ble_eq_true rfl) rfl (dd TX4_readOnly_0 9 rfl) ?_
  refine ok_aload_n (dd TX4_readOnly_0 10 rfl) 0 rfl ?_
  refine ok_callVV (cn := 4) [] [] (fun b3 => C_X4_advance Γ b3) rfl cy_X4_advance ml_RX4_41 im_X4_advance se_X4_advance (by decide) (Nat.le_of_ble_eq_true rfl) rfl (dd TX4_readOnly_0 11 rfl) ?_
  exact ok_return (dd TX4_readOnly_0 12 rfl) rfl
def F_X4_readOnly (this : Nat) (p0 : Int32) : M Unit := bn (gI 4 6 (some this)) fun v1 => if v1 = p0 then F_X4_readOnly_L14 this (0 : Int32) (some this) else F_X4_readOnly_L14 this (1 : Int32) (some this)
set_option maxRecDepth 100000 in
theorem C_X4_readOnly (Γ : Gam) (this : Nat) (p0 : Int32) : Ct Γ mX4_readOnly 6 vV [va_rf (some this), .int p0] (F_X4_readOnly this p0) := by
  refine ct_in (lv := [(0, va_rf (some this)), (1, .int p0)]) (by decide) (by first | rfl | (simp only [lv_args, cat_rf]; rfl)) (by first | exact Nat.le_of_ble_eq_true rfl | (rw [lg_len]; simp only [List.map_cons, List.map_nil, cat_rf]; exact Nat.le_of_ble_eq_true rfl)) ?_
  unfold F_X4_readOnly
  refine ok_aload_n (dd TX4_readOnly_0 0 rfl) 0 rfl ?_
  refine ok_aload_n (dd TX4_readOnly_0 1 rfl) 0 rfl ?_
  refine ok_gI fl_RX4_38 rfl (dd TX4_readOnly_0 2 rfl) (fun v1 => ?_)
  refine ok_iload_n (dd TX4_readOnly_0 3 rfl) 1 rfl ?_
  refine ok_icmp_eq (tgt := 13) (dd TX4_readOnly_0 4 rfl) (by decide) ?_ ?_
  · refine ok_iconst (v := (0 : Int32)) (dd TX4_readOnly_0 7 rfl) (by decide) ?_
    refine ok_sub [0] rfl ?_
    exact O_X4_readOnly_L14 Γ this (0 : Int32) (some this)
  · refine ok_iconst (v := (1 : Int32)) (dd TX4_readOnly_0 5 rfl) (by decide) ?_
    refine ok_goto (tgt := 14) (dd TX4_readOnly_0 6 rfl) (by decide) ?_
    refine ok_sub [0] rfl ?_
    exact O_X4_readOnly_L14 Γ this (1 : Int32) (some this)
def F_X4_take_L15 (this : Nat) (y0 : Int32) (y1 : Option Nat) : M Unit := bn (pRc 4 y1) fun b2 => bn (F_X4_refuseIf b2 y0 (4 : Int32)) fun _ => bn (gI 4 8 (some this)) fun v3 => bn (wI 4 8 (some this) (v3 + (1 : Int32))) fun _ => bn (pRc 4 (some this)) fun b4 => bn (F_X4_advance b4) fun _ => rt ()
set_option maxRecDepth 100000 in
theorem O_X4_take_L15 (Γ : Gam) (this : Nat) (y0 : Int32) (y1 : Option Nat) : Ok Γ mX4_take 6 (qo Γ vV) 15 [(0, va_rf (some this))] [.int y0, va_rf y1] (F_X4_take_L15 this y0 y1) := by
  unfold F_X4_take_L15
  refine ok_iconst (v := (4 : Int32)) (dd TX4_take_0 8 rfl) (by decide) ?_
  refine ok_callVV (cn := 4) [.int y0, .int (4 : Int32)] [] (fun b2 => C_X4_refuseIf Γ b2 y0 (4 : Int32)) rfl cy_X4_refuseIf ml_RX4_52 im_X4_refuseIf se_X4_refuseIf (by decide) (Nat.le_of_ble_eq_true rfl) rfl (dd TX4_take_0 9 rfl) ?_
  refine ok_aload_n (dd TX4_take_0 10 rfl) 0 rfl ?_
  refine ok_dup (dd TX4_take_0 11 rfl) (by first | rfl | exact cat_rf _) ?_
  refine ok_gI fl_RX4_63 rfl (dd TX4_take_0 12 rfl) (fun v3 => ?_)
  refine ok_iconst (v := (1 : Int32)) (dd TX4_take_0 13 rfl) (by decide) ?_
  refine ok_iadd (dd TX4_take_0 14 rfl) ?_
  refine ok_wI fl_RX4_63 (Or.inl rfl) (tyX4_ok 8 (by decide)) (by decide) rfl (dd TX4_take_0 15 rfl) ?_
  refine ok_aload_n (dd TX4_take_0 16 rfl) 0 rfl ?_
  refine ok_callVV (cn := 4) [] [] (fun b4 => C_X4_advance Γ b4) rfl cy_X4_advance ml_RX4_41 im_X4_advance se_X4_advance (by decide) (Nat.le_of_ble_eq_true rfl) rfl (dd TX4_take_0 17 rfl) ?_
  exact ok_return (dd TX4_take_0 18 rfl) rfl
def F_X4_take (this : Nat) : M Unit := bn (gI 4 8 (some this)) fun v1 => if v1 < (60 : Int32) then F_X4_take_L15 this (0 : Int32) (some this) else F_X4_take_L15 this (1 : Int32) (some this)
set_option maxRecDepth 100000 in
theorem C_X4_take (Γ : Gam) (this : Nat) : Ct Γ mX4_take 6 vV [va_rf (some this)] (F_X4_take this) := by
  refine ct_in (lv := [(0, va_rf (some this))]) (by decide) (by first | rfl | (simp only [lv_args, cat_rf]; rfl)) (by first | exact Nat.le_of_ble_eq_true rfl | (rw [lg_len]; simp only [List.map_cons, List.map_nil, cat_rf]; exact Nat.le_of_ble_eq_true rfl)) ?_
  unfold F_X4_take
  refine ok_aload_n (dd TX4_take_0 0 rfl) 0 rfl ?_
  refine ok_aload_n (dd TX4_take_0 1 rfl) 0 rfl ?_
  refine ok_gI fl_RX4_63 rfl (dd TX4_take_0 2 rfl) (fun v1 => ?_)
  refine ok_bipush (v := (60 : Int32)) (dd TX4_take_0 3 rfl) (by decide) ?_
  refine ok_icmp_lt (tgt := 14) (dd TX4_take_0 4 rfl) (by decide) ?_ ?_
  · refine ok_iconst (v := (0 : Int32)) (dd TX4_take_0 7 rfl) (by decide) ?_
    exact O_X4_take_L15 Γ this (0 : Int32) (some this)
  · refine ok_iconst (v := (1 : Int32)) (dd TX4_take_0 5 rfl) (by decide) ?_
    refine ok_goto (tgt := 15) (dd TX4_take_0 6 rfl) (by decide) ?_
    exact O_X4_take_L15 Γ this (1 : Int32) (some this)
def F_X7_valueOf_L22  : M Int32 := rt (1000 : Int32)
set_option maxRecDepth 100000 in
theorem O_X7_valueOf_L22 (Γ : Gam)  : Ok Γ mX7_valueOf 4 (qo Γ vI) 22 [] [] (F_X7_valueOf_L22 ) := by
  unfold F_X7_valueOf_L22
  refine ok_sipush (v := (1000 : Int32)) (dd TX7_valueOf_0 12 rfl) (by decide) ?_
  refine ok_goto (tgt := 29) (dd TX7_valueOf_0 13 rfl) (by decide) ?_
  exact ok_ireturn (dd TX7_valueOf_0 15 rfl) rfl
def F_X7_valueOf (this : Nat) (p0 : Int32) (p1 : Int32) (p2 : Int32) (p3 : Int32) (p4 : Int32) (p5 : Int32) (p6 : Int32) : M Int32 := bn (pRc 7 (some this)) fun b1 => bn (F_X7_inForce b1 p0 p1) fun v2 => if ¬ v2 = none then bn (gP 7 1 (some this)) fun v3 => bn (stI 136 v3 (0 : Int32) p1) fun _ => bn (gP 7 1 (some this)) fun v4 => bn (stI 136 v4 (1 : Int32) p2) fun _ => bn (gP 7 1 (some this)) fun v5 => bn (stI 136 v5 (2 : Int32) p3) fun _ => bn (gP 7 1 (some this)) fun v6 => bn (stI 136 v6 (3 : Int32) p4) fun _ => bn (gP 7 1 (some this)) fun v7 => bn (stI 136 v7 (4 : Int32) p5) fun _ => bn (gP 7 1 (some this)) fun v8 => bn (stI 136 v8 (5 : Int32) p6) fun _ => bn (gP 6 2 v2) fun v9 => bn (pRc 7 (some this)) fun b10 => bn (F_X7_work b10 v9) fun v11 => rt v11 else if p0 = 0 then F_X7_valueOf_L22  else if ¬ p0 = (3 : Int32) then rt (0 : Int32) else F_X7_valueOf_L22 
set_option maxRecDepth 100000 in
theorem C_X7_valueOf (Γ : Gam) (this : Nat) (p0 : Int32) (p1 : Int32) (p2 : Int32) (p3 : Int32) (p4 : Int32) (p5 : Int32) (p6 : Int32) : Ct Γ mX7_valueOf 4 vI [va_rf (some this), .int p0, .int p1, .int p2, .int p3, .int p4, .int p5, .int p6] (F_X7_valueOf this p0 p1 p2 p3 p4 p5 p6) := by
  refine ct_in (lv := [(0, va_rf (some this)), (1, .int p0), (2, .int p1), (3, .int p2), (4, .int p3), (5, .int p4), (6, .int p5), (7, .int p6)]) (by decide) (by first | rfl | (simp only [lv_args, cat_rf]; rfl)) (by first | exact Nat.le_of_ble_eq_true rfl | (rw [lg_len]; simp only [List.map_cons, List.map_nil, cat_rf]; exact Nat.le_of_ble_eq_true rfl)) ?_
  unfold F_X7_valueOf
  refine ok_aload_n (dd TX7_valueOf_0 0 rfl) 0 rfl ?_
  refine ok_iload_n (dd TX7_valueOf_0 1 rfl) 1 rfl ?_
  refine ok_iload_n (dd TX7_valueOf_0 2 rfl) 2 rfl ?_
  refine ok_callVR (cn := 7) [.int p0, .int p1] [] (fun b1 => C_X7_inForce Γ b1 p0 p1) rfl cy_X7_inForce ml_RX7_27 im_X7_inForce se_X7_inForce (by decide) (Nat.le_of_ble_eq_true rfl) rfl (dd TX7_valueOf_0 3 rfl) (fun v2 => ?_)
  refine ok_astore (lv' := [(8, va_rf v2), (0, va_rf (some this)), (1, .int p0), (2, .int p1), (3, .int p2), (4, .int p3), (5, .int p4), (6, .int p5), (7, .int p6)]) (dd TX7_valueOf_0 4 rfl) (by decide) (by first | rfl | (simp only [List.filter, cat_rf]; rfl)) ?_
  refine ok_aload (dd TX7_valueOf_0 5 rfl) 0 rfl ?_
  refine ok_ifnonnull (tgt := 30) (dd TX7_valueOf_0 6 rfl) (by decide) ?_ ?_
  · refine ok_aload_n (dd TX7_valueOf_0 16 rfl) 1 rfl ?_
    refine ok_gP fl_RX7_18 rfl (dd TX7_valueOf_0 17 rfl) (fun v3 => ?_)
    refine ok_iconst (v := (0 : Int32)) (dd TX7_valueOf_0 18 rfl) (by decide) ?_
    refine ok_iload_n (dd TX7_valueOf_0 19 rfl) 3 rfl ?_
    refine ok_stI (kd := 136) (by decide) rfl (dd TX7_valueOf_0 20 rfl) ?_
    refine ok_aload_n (dd TX7_valueOf_0 21 rfl) 1 rfl ?_
    refine ok_gP fl_RX7_18 rfl (dd TX7_valueOf_0 22 rfl) (fun v4 => ?_)
    refine ok_iconst (v := (1 : Int32)) (dd TX7_valueOf_0 23 rfl) (by decide) ?_
    refine ok_iload_n (dd TX7_valueOf_0 24 rfl) 4 rfl ?_
    refine ok_stI (kd := 136) (by decide) rfl (dd TX7_valueOf_0 25 rfl) ?_
    refine ok_aload_n (dd TX7_valueOf_0 26 rfl) 1 rfl ?_
    refine ok_gP fl_RX7_18 rfl (dd TX7_valueOf_0 27 rfl) (fun v5 => ?_)
    refine ok_iconst (v := (2 : Int32)) (dd TX7_valueOf_0 28 rfl) (by decide) ?_
    refine ok_iload (dd TX7_valueOf_0 29 rfl) 5 rfl ?_
    refine ok_stI (kd := 136) (by decide) rfl (dd TX7_valueOf_0 30 rfl) ?_
    refine ok_aload_n (dd TX7_valueOf_0 31 rfl) 1 rfl ?_
    refine ok_gP fl_RX7_18 rfl (dd TX7_valueOf_0 32 rfl) (fun v6 => ?_)
    refine ok_iconst (v := (3 : Int32)) (dd TX7_valueOf_0 33 rfl) (by decide) ?_
    refine ok_iload (dd TX7_valueOf_0 34 rfl) 6 rfl ?_
    refine ok_stI (kd := 136) (by decide) rfl (dd TX7_valueOf_0 35 rfl) ?_
    refine ok_aload_n (dd TX7_valueOf_0 36 rfl) 1 rfl ?_
    refine ok_gP fl_RX7_18 rfl (dd TX7_valueOf_0 37 rfl) (fun v7 => ?_)
    refine ok_iconst (v := (4 : Int32)) (dd TX7_valueOf_0 38 rfl) (by decide) ?_
    refine ok_iload (dd TX7_valueOf_0 39 rfl) 7 rfl ?_
    refine ok_stI (kd := 136) (by decide) rfl (dd TX7_valueOf_1 0 rfl) ?_
    refine ok_aload_n (dd TX7_valueOf_1 1 rfl) 1 rfl ?_
    refine ok_gP fl_RX7_18 rfl (dd TX7_valueOf_1 2 rfl) (fun v8 => ?_)
    refine ok_iconst (v := (5 : Int32)) (dd TX7_valueOf_1 3 rfl) (by decide) ?_
    refine ok_iload (dd TX7_valueOf_1 4 rfl) 8 rfl ?_
    refine ok_stI (kd := 136) (by decide) rfl (dd TX7_valueOf_1 5 rfl) ?_
    refine ok_aload_n (dd TX7_valueOf_1 6 rfl) 1 rfl ?_
    refine ok_aload (dd TX7_valueOf_1 7 rfl) 0 rfl ?_
    refine ok_gP fl_RX7_31 rfl (dd TX7_valueOf_1 8 rfl) (fun v9 => ?_)
    refine ok_callVI (cn := 7) [va_rf v9] [] (fun b10 => C_X7_work Γ b10 v9) rfl cy_X7_work ml_RX7_36 im_X7_work se_X7_work (by decide) (Nat.le_of_ble_eq_true rfl) rfl (dd TX7_valueOf_1 9 rfl) (fun v11 => ?_)
    exact ok_ireturn (dd TX7_valueOf_1 10 rfl) rfl
  · refine ok_iload_n (dd TX7_valueOf_0 7 rfl) 2 rfl ?_
    refine ok_if_eq (tgt := 22) (dd TX7_valueOf_0 8 rfl) (by decide) ?_ ?_
    · refine ok_sub [] rfl ?_
      exact O_X7_valueOf_L22 Γ 
    · refine ok_iload_n (dd TX7_valueOf_0 9 rfl) 2 rfl ?_
      refine ok_iconst (v := (3 : Int32)) (dd TX7_valueOf_0 10 rfl) (by decide) ?_
      refine ok_icmp_ne (tgt := 28) (dd TX7_valueOf_0 11 rfl) (by decide) ?_ ?_
      · refine ok_iconst (v := (0 : Int32)) (dd TX7_valueOf_0 14 rfl) (by decide) ?_
        exact ok_ireturn (dd TX7_valueOf_0 15 rfl) rfl
      · refine ok_sub [] rfl ?_
        exact O_X7_valueOf_L22 Γ 
def F_X11_pass (this : Nat) (p0 : Int32) : M Int32 := bn (pRc 11 (some this)) fun b1 => bn (F_X11_heldNotice b1 p0) fun v2 => if ¬ v2 = none then bn (pRc 11 (some this)) fun b3 => bn (F_X11_nextHolder b3 v2) fun v4 => bn (gI 3 3 v2) fun v5 => bn (pRc 11 (some this)) fun b6 => bn (F_X11_memberOf b6 v5) fun v7 => bn (pRc 11 (some this)) fun b8 => bn (F_X11_memberOf b8 v4) fun v9 => if v7 = none then rt (-1 : Int32) else if ¬ v9 = none then bn (gP 11 1 (some this)) fun v10 => bn (gI 11 8 (some this)) fun v11 => bn (gI 3 1 v2) fun v12 => bn (gI 3 4 v2) fun v13 => bn (pRc 7 v10) fun b14 => bn (F_X7_valueOf b14 (5 : Int32) v11 v12 (0 : Int32) v13 (0 : Int32) (0 : Int32)) fun v15 => bn (gLg 1 2 v7) fun v16 => bn (wL 1 2 v7 (v16 - v15.toInt64)) fun _ => bn (gLg 1 2 v9) fun v17 => bn (wL 1 2 v9 (v17 + v15.toInt64)) fun _ => bn (pRc 3 v2) fun b18 => bn (F_X3_handTo b18 v4) fun _ => rt v4 else rt (-1 : Int32) else rt (-1 : Int32)
set_option maxRecDepth 100000 in
theorem C_X11_pass (Γ : Gam) (this : Nat) (p0 : Int32) : Ct Γ mX11_pass 5 vI [va_rf (some this), .int p0] (F_X11_pass this p0) := by
  refine ct_in (lv := [(0, va_rf (some this)), (1, .int p0)]) (by decide) (by first | rfl | (simp only [lv_args, cat_rf]; rfl)) (by first | exact Nat.le_of_ble_eq_true rfl | (rw [lg_len]; simp only [List.map_cons, List.map_nil, cat_rf]; exact Nat.le_of_ble_eq_true rfl)) ?_
  unfold F_X11_pass
  refine ok_aload_n (dd TX11_pass_0 0 rfl) 0 rfl ?_
  refine ok_iload_n (dd TX11_pass_0 1 rfl) 1 rfl ?_
  refine ok_callVR (cn := 11) [.int p0] [] (fun b1 => C_X11_heldNotice Γ b1 p0) rfl cy_X11_heldNotice ml_RX11_281 im_X11_heldNotice se_X11_heldNotice (by decide) (Nat.le_of_ble_eq_true rfl) rfl (dd TX11_pass_0 2 rfl) (fun v2 => ?_)
  refine ok_astore_n (lv' := [(2, va_rf v2), (0, va_rf (some this)), (1, .int p0)]) (dd TX11_pass_0 3 rfl) (by decide) (by first | rfl | (simp only [List.filter, cat_rf]; rfl)) ?_
  refine ok_aload_n (dd TX11_pass_0 4 rfl) 0 rfl ?_
  refine ok_ifnonnull (tgt := 12) (dd TX11_pass_0 5 rfl) (by decide) ?_ ?_
  · refine ok_aload_n (dd TX11_pass_0 8 rfl) 1 rfl ?_
    refine ok_aload_n (dd TX11_pass_0 9 rfl) 0 rfl ?_
    refine ok_callVI (cn := 11) [va_rf v2] [] (fun b3 => C_X11_nextHolder Γ b3 v2) rfl cy_X11_nextHolder ml_RX11_285 im_X11_nextHolder se_X11_nextHolder (by decide) (Nat.le_of_ble_eq_true rfl) rfl (dd TX11_pass_0 10 rfl) (fun v4 => ?_)
    refine ok_istore_n (lv' := [(3, .int v4), (2, va_rf v2), (0, va_rf (some this)), (1, .int p0)]) (dd TX11_pass_0 11 rfl) (by decide) (by first | rfl | (simp only [List.filter, cat_rf]; rfl)) ?_
    refine ok_aload_n (dd TX11_pass_0 12 rfl) 2 rfl ?_
    refine ok_aload_n (dd TX11_pass_0 13 rfl) 1 rfl ?_
    refine ok_gI fl_RX11_289 rfl (dd TX11_pass_0 14 rfl) (fun v5 => ?_)
    refine ok_callVR (cn := 11) [.int v5] [] (fun b6 => C_X11_memberOf Γ b6 v5) rfl cy_X11_memberOf ml_RX11_96 im_X11_memberOf se_X11_memberOf (by decide) (Nat.le_of_ble_eq_true rfl) rfl (dd TX11_pass_0 15 rfl) (fun v7 => ?_)
    refine ok_astore (lv' := [(4, va_rf v7), (3, .int v4), (2, va_rf v2), (0, va_rf (some this)), (1, .int p0)]) (dd TX11_pass_0 16 rfl) (by decide) (by first | rfl | (simp only [List.filter, cat_rf]; rfl)) ?_
    refine ok_aload_n (dd TX11_pass_0 17 rfl) 3 rfl ?_
    refine ok_iload_n (dd TX11_pass_0 18 rfl) 1 rfl ?_
    refine ok_callVR (cn := 11) [.int v4] [] (fun b8 => C_X11_memberOf Γ b8 v4) rfl cy_X11_memberOf ml_RX11_96 im_X11_memberOf se_X11_memberOf (by decide) (Nat.le_of_ble_eq_true rfl) rfl (dd TX11_pass_0 19 rfl) (fun v9 => ?_)
    refine ok_astore (lv' := [(5, va_rf v9), (4, va_rf v7), (3, .int v4), (2, va_rf v2), (0, va_rf (some this)), (1, .int p0)]) (dd TX11_pass_0 20 rfl) (by decide) (by first | rfl | (simp only [List.filter, cat_rf]; rfl)) ?_
    refine ok_aload (dd TX11_pass_0 21 rfl) 1 rfl ?_
    refine ok_ifnull (tgt := 45) (dd TX11_pass_0 22 rfl) (by decide) ?_ ?_
    · refine ok_iconst (v := (-1 : Int32)) (dd TX11_pass_0 25 rfl) (by decide) ?_
      exact ok_ireturn (dd TX11_pass_0 26 rfl) rfl
    · refine ok_aload (dd TX11_pass_0 23 rfl) 0 rfl ?_
      refine ok_ifnonnull (tgt := 47) (dd TX11_pass_0 24 rfl) (by decide) ?_ ?_
      · refine ok_aload_n (dd TX11_pass_0 27 rfl) 4 rfl ?_
        refine ok_gP fl_RX11_19 rfl (dd TX11_pass_0 28 rfl) (fun v10 => ?_)
        refine ok_iconst (v := (5 : Int32)) (dd TX11_pass_0 29 rfl) (by decide) ?_
        refine ok_aload_n (dd TX11_pass_0 30 rfl) 4 rfl ?_
        refine ok_gI fl_RX11_186 rfl (dd TX11_pass_0 31 rfl) (fun v11 => ?_)
        refine ok_aload_n (dd TX11_pass_0 32 rfl) 3 rfl ?_
        refine ok_gI fl_RX11_292 rfl (dd TX11_pass_0 33 rfl) (fun v12 => ?_)
        refine ok_iconst (v := (0 : Int32)) (dd TX11_pass_0 34 rfl) (by decide) ?_
        refine ok_aload_n (dd TX11_pass_0 35 rfl) 3 rfl ?_
        refine ok_gI fl_RX11_293 rfl (dd TX11_pass_0 36 rfl) (fun v13 => ?_)
        refine ok_iconst (v := (0 : Int32)) (dd TX11_pass_0 37 rfl) (by decide) ?_
        refine ok_iconst (v := (0 : Int32)) (dd TX11_pass_0 38 rfl) (by decide) ?_
        refine ok_callVI (cn := 7) [.int (5 : Int32), .int v11, .int v12, .int (0 : Int32), .int v13, .int (0 : Int32), .int (0 : Int32)] [] (fun b14 => C_X7_valueOf Γ b14 (5 : Int32) v11 v12 (0 : Int32) v13 (0 : Int32) (0 : Int32)) rfl cy_X7_valueOf ml_RX11_81 im_X7_valueOf se_X7_valueOf (by decide) (Nat.le_of_ble_eq_true rfl) rfl (dd TX11_pass_0 39 rfl) (fun v15 => ?_)
        refine ok_i2l (dd TX11_pass_1 0 rfl) ?_
        refine ok_lstore (lv' := [(6, .long v15.toInt64), (5, va_rf v9), (4, va_rf v7), (3, .int v4), (2, va_rf v2), (0, va_rf (some this)), (1, .int p0)]) (dd TX11_pass_1 1 rfl) (by decide) (by first | rfl | (simp only [List.filter, cat_rf]; rfl)) ?_
        refine ok_aload (dd TX11_pass_1 2 rfl) 2 rfl ?_
        refine ok_dup (dd TX11_pass_1 3 rfl) (by first | rfl | exact cat_rf _) ?_
        refine ok_gL fl_RX11_104 rfl (dd TX11_pass_1 4 rfl) (fun v16 => ?_)
        refine ok_lload (dd TX11_pass_1 5 rfl) 0 rfl ?_
        refine ok_lsub (dd TX11_pass_1 6 rfl) ?_
        refine ok_wL fl_RX11_104 (Or.inl rfl) (tyX1_ok 2 (by decide)) (by decide) rfl (dd TX11_pass_1 7 rfl) ?_
        refine ok_aload (dd TX11_pass_1 8 rfl) 1 rfl ?_
        refine ok_dup (dd TX11_pass_1 9 rfl) (by first | rfl | exact cat_rf _) ?_
        refine ok_gL fl_RX11_104 rfl (dd TX11_pass_1 10 rfl) (fun v17 => ?_)
        refine ok_lload (dd TX11_pass_1 11 rfl) 0 rfl ?_
        refine ok_ladd (dd TX11_pass_1 12 rfl) ?_
        refine ok_wL fl_RX11_104 (Or.inl rfl) (tyX1_ok 2 (by decide)) (by decide) rfl (dd TX11_pass_1 13 rfl) ?_
        refine ok_aload_n (dd TX11_pass_1 14 rfl) 4 rfl ?_
        refine ok_iload_n (dd TX11_pass_1 15 rfl) 3 rfl ?_
        refine ok_callVV (cn := 3) [.int v4] [] (fun b18 => C_X3_handTo Γ b18 v4) rfl cy_X3_handTo ml_RX11_296 im_X3_handTo se_X3_handTo (by decide) (Nat.le_of_ble_eq_true rfl) rfl (dd TX11_pass_1 16 rfl) ?_
        refine ok_iload_n (dd TX11_pass_1 17 rfl) 3 rfl ?_
        exact ok_ireturn (dd TX11_pass_1 18 rfl) rfl
      · refine ok_iconst (v := (-1 : Int32)) (dd TX11_pass_0 25 rfl) (by decide) ?_
        exact ok_ireturn (dd TX11_pass_0 26 rfl) rfl
  · refine ok_iconst (v := (-1 : Int32)) (dd TX11_pass_0 6 rfl) (by decide) ?_
    exact ok_ireturn (dd TX11_pass_0 7 rfl) rfl
