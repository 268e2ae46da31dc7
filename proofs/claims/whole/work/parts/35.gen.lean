def F_X12_squeeze_L154 (k111 : Nat → Int32 → Int32 → Int32 → Int32 → Int32 → Int32 → M Int32) (this : Nat) (x1 : Int32) (x2 : Int32) (x3 : Int32) (x4 : Int32) (x5 : Int32) (x6 : Int32) : M Int32 := k111 this x1 x2 x3 x4 x5 (x6 + (1 : Int32))
set_option maxRecDepth 100000 in
theorem O_X12_squeeze_L154 (Γ : Gam) (k111 : Nat → Int32 → Int32 → Int32 → Int32 → Int32 → Int32 → M Int32) (hk111 : ∀ (z0 : Nat) (z1 : Int32) (z2 : Int32) (z3 : Int32) (z4 : Int32) (z5 : Int32) (z6 : Int32), Ok Γ mX12_squeeze 2 (qo Γ vI) 111 [(0, va_rf (some z0)), (1, .int z1), (2, .int z2), (3, .int z3), (4, .int z4), (5, .int z5), (6, .int z6)] [] (k111 z0 z1 z2 z3 z4 z5 z6)) (this : Nat) (x1 : Int32) (x2 : Int32) (x3 : Int32) (x4 : Int32) (x5 : Int32) (x6 : Int32) : Ok Γ mX12_squeeze 2 (qo Γ vI) 154 [(0, va_rf (some this)), (1, .int x1), (2, .int x2), (3, .int x3), (4, .int x4), (5, .int x5), (6, .int x6)] [] (F_X12_squeeze_L154 k111 this x1 x2 x3 x4 x5 x6) := by
  unfold F_X12_squeeze_L154
  refine ok_iinc (lv' := [(6, .int (x6 + (1 : Int32))), (0, va_rf (some this)), (1, .int x1), (2, .int x2), (3, .int x3), (4, .int x4), (5, .int x5)]) (dd TX12_squeeze_2 7 rfl) 6 rfl (congrArg (fun q : Int32 => x6 + q) (show Int32.ofInt (1) = (1 : Int32) from by decide)) (by decide) (by first | rfl | (simp only [List.filter, cat_rf]; rfl)) ?_
  refine ok_goto (tgt := 111) (dd TX12_squeeze_2 8 rfl) (by decide) ?_
  refine ok_sub [1, 2, 3, 4, 5, 6, 0] rfl ?_
  exact hk111 this x1 x2 x3 x4 x5 (x6 + (1 : Int32))
def F_X12_squeeze_L111 : Nat → Nat → Int32 → Int32 → Int32 → Int32 → Int32 → Int32 → M Int32
  | 0 => fun _ _ _ _ _ _ _ => fl
  | n + 1 => fun this x1 x2 x3 x4 x5 x6 => bn (gI 12 32 (some this)) fun v6 => if v6 ≤ x6 then swF x2 [((0 : Int32), 192, bn (gP 12 19 (some this)) fun v7 => bn (lI 274 v7 x1) fun v8 => if v8 = 0 then rt (0 : Int32) else rt (1 : Int32)), ((1 : Int32), 207, rt x3), ((2 : Int32), 209, rt x4), ((3 : Int32), 212, rt x5)] (if x4 = (-1 : Int32) then rt (0 : Int32) else if x3 ≤ x5 then rt (0 : Int32) else bn (gP 12 14 (some this)) fun v9 => bn (lI 232 v9 (((6 : Int32) * x4) + x1)) fun v10 => if (lg_cmp ((2 : Int64) * v10.toInt64) x3.toInt64) ≤ 0 then rt (0 : Int32) else rt (1 : Int32)) else bn (gP 12 31 (some this)) fun v11 => bn (lI 336 v11 (((4 : Int32) * x6) + (3 : Int32))) fun v12 => if ¬ v12 = (1 : Int32) then F_X12_squeeze_L154 (F_X12_squeeze_L111 n) this x1 x2 x3 x4 x5 x6 else bn (gP 12 31 (some this)) fun v13 => bn (lI 336 v13 (((4 : Int32) * x6) + (2 : Int32))) fun v14 => if v14 = x4 then F_X12_squeeze_L154 (F_X12_squeeze_L111 n) this x1 x2 x3 x4 x5 x6 else F_X12_squeeze_L154 (F_X12_squeeze_L111 n) this x1 x2 x3 x4 (x5 + (1 : Int32)) x6
set_option maxRecDepth 100000 in
theorem O_X12_squeeze_L111 (Γ : Gam) (n : Nat) : ∀ (this : Nat) (x1 : Int32) (x2 : Int32) (x3 : Int32) (x4 : Int32) (x5 : Int32) (x6 : Int32), Ok Γ mX12_squeeze 2 (qo Γ vI) 111 [(0, va_rf (some this)), (1, .int x1), (2, .int x2), (3, .int x3), (4, .int x4), (5, .int x5), (6, .int x6)] [] (F_X12_squeeze_L111 n this x1 x2 x3 x4 x5 x6) := by
  induction n with
  | zero => intro this x1 x2 x3 x4 x5 x6; exact ok_fl
  | succ n ih =>
    intro this x1 x2 x3 x4 x5 x6
    rw [F_X12_squeeze_L111]
    refine ok_iload (dd TX12_squeeze_1 22 rfl) 6 rfl ?_
    refine ok_aload_n (dd TX12_squeeze_1 23 rfl) 0 rfl ?_
    refine ok_gI fl_RX12_310 rfl (dd TX12_squeeze_1 24 rfl) (fun v6 => ?_)
    refine ok_icmp_ge (tgt := 160) (dd TX12_squeeze_1 25 rfl) (by decide) ?_ ?_
    · refine ok_iload_n (dd TX12_squeeze_2 9 rfl) 2 rfl ?_
      refine ok_tsw (dt := 215) (dd TX12_squeeze_2 10 rfl) rfl (List.forall_mem_cons.mpr ⟨?_, List.forall_mem_cons.mpr ⟨?_, List.forall_mem_cons.mpr ⟨?_, List.forall_mem_cons.mpr ⟨?_, fun _ h => absurd h List.not_mem_nil⟩⟩⟩⟩) ?_
      · show Ok _ _ _ _ 192 _ _ (bn (gP 12 19 (some this)) fun v7 => bn (lI 274 v7 x1) fun v8 => if v8 = 0 then rt (0 : Int32) else rt (1 : Int32))
        refine ok_aload_n (dd TX12_squeeze_2 11 rfl) 0 rfl ?_
        refine ok_gP fl_RX12_54 rfl (dd TX12_squeeze_2 12 rfl) (fun v7 => ?_)
        refine ok_iload_n (dd TX12_squeeze_2 13 rfl) 1 rfl ?_
        refine ok_lZ (kd := 274) (by decide) rfl (dd TX12_squeeze_2 14 rfl) (fun v8 => ?_)
        refine ok_if_eq (tgt := 205) (dd TX12_squeeze_2 15 rfl) (by decide) ?_ ?_
        · refine ok_iconst (v := (0 : Int32)) (dd TX12_squeeze_2 18 rfl) (by decide) ?_
          exact ok_ireturn (dd TX12_squeeze_2 19 rfl) rfl
        · refine ok_iconst (v := (1 : Int32)) (dd TX12_squeeze_2 16 rfl) (by decide) ?_
          refine ok_goto (tgt := 206) (dd TX12_squeeze_2 17 rfl) (by decide) ?_
          exact ok_ireturn (dd TX12_squeeze_2 19 rfl) rfl
      · show Ok _ _ _ _ 207 _ _ (rt x3)
        refine ok_iload_n (dd TX12_squeeze_2 20 rfl) 3 rfl ?_
        exact ok_ireturn (dd TX12_squeeze_2 21 rfl) rfl
      · show Ok _ _ _ _ 209 _ _ (rt x4)
        refine ok_iload (dd TX12_squeeze_2 22 rfl) 4 rfl ?_
        exact ok_ireturn (dd TX12_squeeze_2 23 rfl) rfl
      · show Ok _ _ _ _ 212 _ _ (rt x5)
        refine ok_iload (dd TX12_squeeze_2 24 rfl) 5 rfl ?_
        exact ok_ireturn (dd TX12_squeeze_2 25 rfl) rfl
      · show Ok _ _ _ _ 215 _ _ (if x4 = (-1 : Int32) then rt (0 : Int32) else if x3 ≤ x5 then rt (0 : Int32) else bn (gP 12 14 (some this)) fun v9 => bn (lI 232 v9 (((6 : Int32) * x4) + x1)) fun v10 => if (lg_cmp ((2 : Int64) * v10.toInt64) x3.toInt64) ≤ 0 then rt (0 : Int32) else rt (1 : Int32))
        refine ok_iload (dd TX12_squeeze_2 26 rfl) 4 rfl ?_
        refine ok_iconst (v := (-1 : Int32)) (dd TX12_squeeze_2 27 rfl) (by decide) ?_
        refine ok_icmp_eq (tgt := 254) (dd TX12_squeeze_2 28 rfl) (by decide) ?_ ?_
        · refine ok_iconst (v := (0 : Int32)) (dd TX12_squeeze_3 9 rfl) (by decide) ?_
          exact ok_ireturn (dd TX12_squeeze_3 10 rfl) rfl
        · refine ok_iload_n (dd TX12_squeeze_2 29 rfl) 3 rfl ?_
          refine ok_iload (dd TX12_squeeze_2 30 rfl) 5 rfl ?_
          refine ok_icmp_le (tgt := 254) (dd TX12_squeeze_2 31 rfl) (by decide) ?_ ?_
          · refine ok_iconst (v := (0 : Int32)) (dd TX12_squeeze_3 9 rfl) (by decide) ?_
            exact ok_ireturn (dd TX12_squeeze_3 10 rfl) rfl
          · refine ok_ldc2 (v := (2 : Int64)) (dd TX12_squeeze_2 32 rfl) cl2_RX12_288 ?_
            refine ok_aload_n (dd TX12_squeeze_2 33 rfl) 0 rfl ?_
            refine ok_gP fl_RX12_39 rfl (dd TX12_squeeze_2 34 rfl) (fun v9 => ?_)
            refine ok_bipush (v := (6 : Int32)) (dd TX12_squeeze_2 35 rfl) (by decide) ?_
            refine ok_iload (dd TX12_squeeze_2 36 rfl) 4 rfl ?_
            refine ok_imul (dd TX12_squeeze_2 37 rfl) ?_
            refine ok_iload_n (dd TX12_squeeze_2 38 rfl) 1 rfl ?_
            refine ok_iadd (dd TX12_squeeze_2 39 rfl) ?_
            refine ok_lI (kd := 232) (by decide) rfl (dd TX12_squeeze_3 0 rfl) (fun v10 => ?_)
            refine ok_i2l (dd TX12_squeeze_3 1 rfl) ?_
            refine ok_lmul (dd TX12_squeeze_3 2 rfl) ?_
            refine ok_iload_n (dd TX12_squeeze_3 3 rfl) 3 rfl ?_
            refine ok_i2l (dd TX12_squeeze_3 4 rfl) ?_
            refine ok_lcmp (dd TX12_squeeze_3 5 rfl) ?_
            refine ok_if_le (tgt := 254) (dd TX12_squeeze_3 6 rfl) (by decide) ?_ ?_
            · refine ok_iconst (v := (0 : Int32)) (dd TX12_squeeze_3 9 rfl) (by decide) ?_
              exact ok_ireturn (dd TX12_squeeze_3 10 rfl) rfl
            · refine ok_iconst (v := (1 : Int32)) (dd TX12_squeeze_3 7 rfl) (by decide) ?_
              refine ok_goto (tgt := 255) (dd TX12_squeeze_3 8 rfl) (by decide) ?_
              exact ok_ireturn (dd TX12_squeeze_3 10 rfl) rfl
    · refine ok_aload_n (dd TX12_squeeze_1 26 rfl) 0 rfl ?_
      refine ok_gP fl_RX12_78 rfl (dd TX12_squeeze_1 27 rfl) (fun v11 => ?_)
      refine ok_iconst (v := (4 : Int32)) (dd TX12_squeeze_1 28 rfl) (by decide) ?_
      refine ok_iload (dd TX12_squeeze_1 29 rfl) 6 rfl ?_
      refine ok_imul (dd TX12_squeeze_1 30 rfl) ?_
      refine ok_iconst (v := (3 : Int32)) (dd TX12_squeeze_1 31 rfl) (by decide) ?_
      refine ok_iadd (dd TX12_squeeze_1 32 rfl) ?_
      refine ok_lI (kd := 336) (by decide) rfl (dd TX12_squeeze_1 33 rfl) (fun v12 => ?_)
      refine ok_iconst (v := (1 : Int32)) (dd TX12_squeeze_1 34 rfl) (by decide) ?_
      refine ok_icmp_ne (tgt := 154) (dd TX12_squeeze_1 35 rfl) (by decide) ?_ ?_
      · exact O_X12_squeeze_L154 Γ (F_X12_squeeze_L111 n) ih this x1 x2 x3 x4 x5 x6
      · refine ok_aload_n (dd TX12_squeeze_1 36 rfl) 0 rfl ?_
        refine ok_gP fl_RX12_78 rfl (dd TX12_squeeze_1 37 rfl) (fun v13 => ?_)
        refine ok_iconst (v := (4 : Int32)) (dd TX12_squeeze_1 38 rfl) (by decide) ?_
        refine ok_iload (dd TX12_squeeze_1 39 rfl) 6 rfl ?_
        refine ok_imul (dd TX12_squeeze_2 0 rfl) ?_
        refine ok_iconst (v := (2 : Int32)) (dd TX12_squeeze_2 1 rfl) (by decide) ?_
        refine ok_iadd (dd TX12_squeeze_2 2 rfl) ?_
        refine ok_lI (kd := 336) (by decide) rfl (dd TX12_squeeze_2 3 rfl) (fun v14 => ?_)
        refine ok_iload (dd TX12_squeeze_2 4 rfl) 4 rfl ?_
        refine ok_icmp_eq (tgt := 154) (dd TX12_squeeze_2 5 rfl) (by decide) ?_ ?_
        · exact O_X12_squeeze_L154 Γ (F_X12_squeeze_L111 n) ih this x1 x2 x3 x4 x5 x6
        · refine ok_iinc (lv' := [(5, .int (x5 + (1 : Int32))), (0, va_rf (some this)), (1, .int x1), (2, .int x2), (3, .int x3), (4, .int x4), (6, .int x6)]) (dd TX12_squeeze_2 6 rfl) 5 rfl (congrArg (fun q : Int32 => x5 + q) (show Int32.ofInt (1) = (1 : Int32) from by decide)) (by decide) (by first | rfl | (simp only [List.filter, cat_rf]; rfl)) ?_
          refine ok_sub [1, 2, 3, 4, 5, 0, 6] rfl ?_
          exact O_X12_squeeze_L154 Γ (F_X12_squeeze_L111 n) ih this x1 x2 x3 x4 (x5 + (1 : Int32)) x6
def F_X12_squeeze_L99 (k34 : Nat → Int32 → Int32 → Int32 → Int32 → Int32 → M Int32) (this : Nat) (x1 : Int32) (x2 : Int32) (x3 : Int32) (x4 : Int32) (x5 : Int32) : M Int32 := k34 this x1 x2 x3 x4 (x5 + (1 : Int32))
set_option maxRecDepth 100000 in
theorem O_X12_squeeze_L99 (Γ : Gam) (k34 : Nat → Int32 → Int32 → Int32 → Int32 → Int32 → M Int32) (hk34 : ∀ (z0 : Nat) (z1 : Int32) (z2 : Int32) (z3 : Int32) (z4 : Int32) (z5 : Int32), Ok Γ mX12_squeeze 2 (qo Γ vI) 34 [(0, va_rf (some z0)), (1, .int z1), (2, .int z2), (3, .int z3), (4, .int z4), (5, .int z5)] [] (k34 z0 z1 z2 z3 z4 z5)) (this : Nat) (x1 : Int32) (x2 : Int32) (x3 : Int32) (x4 : Int32) (x5 : Int32) : Ok Γ mX12_squeeze 2 (qo Γ vI) 99 [(0, va_rf (some this)), (1, .int x1), (2, .int x2), (3, .int x3), (4, .int x4), (5, .int x5)] [] (F_X12_squeeze_L99 k34 this x1 x2 x3 x4 x5) := by
  unfold F_X12_squeeze_L99
  refine ok_iinc (lv' := [(5, .int (x5 + (1 : Int32))), (0, va_rf (some this)), (1, .int x1), (2, .int x2), (3, .int x3), (4, .int x4)]) (dd TX12_squeeze_1 16 rfl) 5 rfl (congrArg (fun q : Int32 => x5 + q) (show Int32.ofInt (1) = (1 : Int32) from by decide)) (by decide) (by first | rfl | (simp only [List.filter, cat_rf]; rfl)) ?_
  refine ok_goto (tgt := 34) (dd TX12_squeeze_1 17 rfl) (by decide) ?_
  refine ok_sub [1, 2, 3, 4, 5, 0] rfl ?_
  exact hk34 this x1 x2 x3 x4 (x5 + (1 : Int32))
def F_X12_squeeze_L95 (k34 : Nat → Int32 → Int32 → Int32 → Int32 → Int32 → M Int32) (this : Nat) (x1 : Int32) (x2 : Int32) (x3 : Int32) (x5 : Int32) : M Int32 := F_X12_squeeze_L99 k34 this x1 x2 x3 x5 x5
set_option maxRecDepth 100000 in
theorem O_X12_squeeze_L95 (Γ : Gam) (k34 : Nat → Int32 → Int32 → Int32 → Int32 → Int32 → M Int32) (hk34 : ∀ (z0 : Nat) (z1 : Int32) (z2 : Int32) (z3 : Int32) (z4 : Int32) (z5 : Int32), Ok Γ mX12_squeeze 2 (qo Γ vI) 34 [(0, va_rf (some z0)), (1, .int z1), (2, .int z2), (3, .int z3), (4, .int z4), (5, .int z5)] [] (k34 z0 z1 z2 z3 z4 z5)) (this : Nat) (x1 : Int32) (x2 : Int32) (x3 : Int32) (x5 : Int32) : Ok Γ mX12_squeeze 2 (qo Γ vI) 95 [(0, va_rf (some this)), (1, .int x1), (2, .int x2), (3, .int x3), (5, .int x5)] [] (F_X12_squeeze_L95 k34 this x1 x2 x3 x5) := by
  unfold F_X12_squeeze_L95
  refine ok_iload (dd TX12_squeeze_1 14 rfl) 4 rfl ?_
  refine ok_istore (lv' := [(4, .int x5), (0, va_rf (some this)), (1, .int x1), (2, .int x2), (3, .int x3), (5, .int x5)]) (dd TX12_squeeze_1 15 rfl) (by decide) (by first | rfl | (simp only [List.filter, cat_rf]; rfl)) ?_
  refine ok_sub [1, 2, 3, 4, 0, 5] rfl ?_
  exact O_X12_squeeze_L99 Γ k34 hk34 this x1 x2 x3 x5 x5
def F_X12_squeeze_L67 (k34 : Nat → Int32 → Int32 → Int32 → Int32 → Int32 → M Int32) (this : Nat) (x1 : Int32) (x2 : Int32) (x3 : Int32) (x4 : Int32) (x5 : Int32) (x6 : Int32) : M Int32 := if x6 ≤ 0 then F_X12_squeeze_L99 k34 this x1 x2 x3 x4 x5 else if x4 = (-1 : Int32) then F_X12_squeeze_L95 k34 this x1 x2 x3 x5 else bn (gP 12 14 (some this)) fun v15 => bn (lI 232 v15 (((6 : Int32) * x4) + x1)) fun v16 => if x6 ≤ v16 then F_X12_squeeze_L99 k34 this x1 x2 x3 x4 x5 else F_X12_squeeze_L95 k34 this x1 x2 x3 x5
set_option maxRecDepth 100000 in
theorem O_X12_squeeze_L67 (Γ : Gam) (k34 : Nat → Int32 → Int32 → Int32 → Int32 → Int32 → M Int32) (hk34 : ∀ (z0 : Nat) (z1 : Int32) (z2 : Int32) (z3 : Int32) (z4 : Int32) (z5 : Int32), Ok Γ mX12_squeeze 2 (qo Γ vI) 34 [(0, va_rf (some z0)), (1, .int z1), (2, .int z2), (3, .int z3), (4, .int z4), (5, .int z5)] [] (k34 z0 z1 z2 z3 z4 z5)) (this : Nat) (x1 : Int32) (x2 : Int32) (x3 : Int32) (x4 : Int32) (x5 : Int32) (x6 : Int32) : Ok Γ mX12_squeeze 2 (qo Γ vI) 67 [(0, va_rf (some this)), (1, .int x1), (2, .int x2), (3, .int x3), (4, .int x4), (5, .int x5), (6, .int x6)] [] (F_X12_squeeze_L67 k34 this x1 x2 x3 x4 x5 x6) := by
  unfold F_X12_squeeze_L67
  refine ok_iload (dd TX12_squeeze_0 39 rfl) 6 rfl ?_
  refine ok_if_le (tgt := 99) (dd TX12_squeeze_1 0 rfl) (by decide) ?_ ?_
  · refine ok_sub [0, 1, 2, 3, 4, 5] rfl ?_
    exact O_X12_squeeze_L99 Γ k34 hk34 this x1 x2 x3 x4 x5
  · refine ok_iload (dd TX12_squeeze_1 1 rfl) 4 rfl ?_
    refine ok_iconst (v := (-1 : Int32)) (dd TX12_squeeze_1 2 rfl) (by decide) ?_
    refine ok_icmp_eq (tgt := 95) (dd TX12_squeeze_1 3 rfl) (by decide) ?_ ?_
    · refine ok_sub [0, 1, 2, 3, 5] rfl ?_
      exact O_X12_squeeze_L95 Γ k34 hk34 this x1 x2 x3 x5
    · refine ok_iload (dd TX12_squeeze_1 4 rfl) 6 rfl ?_
      refine ok_aload_n (dd TX12_squeeze_1 5 rfl) 0 rfl ?_
      refine ok_gP fl_RX12_39 rfl (dd TX12_squeeze_1 6 rfl) (fun v15 => ?_)
      refine ok_bipush (v := (6 : Int32)) (dd TX12_squeeze_1 7 rfl) (by decide) ?_
      refine ok_iload (dd TX12_squeeze_1 8 rfl) 4 rfl ?_
      refine ok_imul (dd TX12_squeeze_1 9 rfl) ?_
      refine ok_iload_n (dd TX12_squeeze_1 10 rfl) 1 rfl ?_
      refine ok_iadd (dd TX12_squeeze_1 11 rfl) ?_
      refine ok_lI (kd := 232) (by decide) rfl (dd TX12_squeeze_1 12 rfl) (fun v16 => ?_)
      refine ok_icmp_le (tgt := 99) (dd TX12_squeeze_1 13 rfl) (by decide) ?_ ?_
      · refine ok_sub [0, 1, 2, 3, 4, 5] rfl ?_
        exact O_X12_squeeze_L99 Γ k34 hk34 this x1 x2 x3 x4 x5
      · refine ok_sub [0, 1, 2, 3, 5] rfl ?_
        exact O_X12_squeeze_L95 Γ k34 hk34 this x1 x2 x3 x5
def F_X12_squeeze_L34 : Nat → Nat → Int32 → Int32 → Int32 → Int32 → Int32 → M Int32
  | 0 => fun _ _ _ _ _ _ => fl
  | n + 1 => fun this x1 x2 x3 x4 x5 => bn (gI 12 10 (some this)) fun v3 => if v3 ≤ x5 then F_X12_squeeze_L111 FU this x1 x2 x3 x4 (0 : Int32) (0 : Int32) else bn (gP 12 14 (some this)) fun v4 => bn (lI 232 v4 (((6 : Int32) * x5) + x1)) fun v5 => if 0 ≤ v5 then F_X12_squeeze_L67 (F_X12_squeeze_L34 n) this x1 x2 x3 x4 x5 v5 else F_X12_squeeze_L67 (F_X12_squeeze_L34 n) this x1 x2 (x3 - v5) x4 x5 v5
set_option maxRecDepth 100000 in
theorem O_X12_squeeze_L34 (Γ : Gam) (n : Nat) : ∀ (this : Nat) (x1 : Int32) (x2 : Int32) (x3 : Int32) (x4 : Int32) (x5 : Int32), Ok Γ mX12_squeeze 2 (qo Γ vI) 34 [(0, va_rf (some this)), (1, .int x1), (2, .int x2), (3, .int x3), (4, .int x4), (5, .int x5)] [] (F_X12_squeeze_L34 n this x1 x2 x3 x4 x5) := by
  induction n with
  | zero => intro this x1 x2 x3 x4 x5; exact ok_fl
  | succ n ih =>
    intro this x1 x2 x3 x4 x5
    rw [F_X12_squeeze_L34]
    refine ok_iload (dd TX12_squeeze_0 20 rfl) 5 rfl ?_
    refine ok_aload_n (dd TX12_squeeze_0 21 rfl) 0 rfl ?_
    refine ok_gI fl_RX12_94 rfl (dd TX12_squeeze_0 22 rfl) (fun v3 => ?_)
    refine ok_icmp_ge (tgt := 105) (dd TX12_squeeze_0 23 rfl) (by decide) ?_ ?_
    · refine ok_iconst (v := (0 : Int32)) (dd TX12_squeeze_1 18 rfl) (by decide) ?_
      refine ok_istore (lv' := [(5, .int (0 : Int32)), (0, va_rf (some this)), (1, .int x1), (2, .int x2), (3, .int x3), (4, .int x4)]) (dd TX12_squeeze_1 19 rfl) (by decide) (by first | rfl | (simp only [List.filter, cat_rf]; rfl)) ?_
      refine ok_iconst (v := (0 : Int32)) (dd TX12_squeeze_1 20 rfl) (by decide) ?_
      refine ok_istore (lv' := [(6, .int (0 : Int32)), (5, .int (0 : Int32)), (0, va_rf (some this)), (1, .int x1), (2, .int x2), (3, .int x3), (4, .int x4)]) (dd TX12_squeeze_1 21 rfl) (by decide) (by first | rfl | (simp only [List.filter, cat_rf]; rfl)) ?_
      refine ok_sub [2, 3, 4, 5, 6, 1, 0] rfl ?_
      exact O_X12_squeeze_L111 Γ FU this x1 x2 x3 x4 (0 : Int32) (0 : Int32)
    · refine ok_aload_n (dd TX12_squeeze_0 24 rfl) 0 rfl ?_
      refine ok_gP fl_RX12_39 rfl (dd TX12_squeeze_0 25 rfl) (fun v4 => ?_)
      refine ok_bipush (v := (6 : Int32)) (dd TX12_squeeze_0 26 rfl) (by decide) ?_
      refine ok_iload (dd TX12_squeeze_0 27 rfl) 5 rfl ?_
      refine ok_imul (dd TX12_squeeze_0 28 rfl) ?_
      refine ok_iload_n (dd TX12_squeeze_0 29 rfl) 1 rfl ?_
      refine ok_iadd (dd TX12_squeeze_0 30 rfl) ?_
      refine ok_lI (kd := 232) (by decide) rfl (dd TX12_squeeze_0 31 rfl) (fun v5 => ?_)
      refine ok_istore (lv' := [(6, .int v5), (0, va_rf (some this)), (1, .int x1), (2, .int x2), (3, .int x3), (4, .int x4), (5, .int x5)]) (dd TX12_squeeze_0 32 rfl) (by decide) (by first | rfl | (simp only [List.filter, cat_rf]; rfl)) ?_
      refine ok_iload (dd TX12_squeeze_0 33 rfl) 0 rfl ?_
      refine ok_if_ge (tgt := 67) (dd TX12_squeeze_0 34 rfl) (by decide) ?_ ?_
      · refine ok_sub [1, 2, 3, 4, 5, 6, 0] rfl ?_
        exact O_X12_squeeze_L67 Γ (F_X12_squeeze_L34 n) ih this x1 x2 x3 x4 x5 v5
      · refine ok_iload_n (dd TX12_squeeze_0 35 rfl) 4 rfl ?_
        refine ok_iload (dd TX12_squeeze_0 36 rfl) 0 rfl ?_
        refine ok_isub (dd TX12_squeeze_0 37 rfl) ?_
        refine ok_istore_n (lv' := [(3, .int (x3 - v5)), (6, .int v5), (0, va_rf (some this)), (1, .int x1), (2, .int x2), (4, .int x4), (5, .int x5)]) (dd TX12_squeeze_0 38 rfl) (by decide) (by first | rfl | (simp only [List.filter, cat_rf]; rfl)) ?_
        refine ok_sub [2, 3, 4, 0, 5, 6, 1] rfl ?_
        exact O_X12_squeeze_L67 Γ (F_X12_squeeze_L34 n) ih this x1 x2 (x3 - v5) x4 x5 v5
def F_X12_squeeze (this : Nat) (p0 : Int32) (p1 : Int32) : M Int32 := bn (wI 12 35 (some this) (0 : Int32)) fun _ => bn (F_X12_isMonth p0) fun v1 => if v1 = 0 then rt (-1 : Int32) else bn (F_X12_in p1.toInt64 (0 : Int64) (4 : Int64)) fun v2 => if ¬ v2 = 0 then F_X12_squeeze_L34 FU this p0 p1 (0 : Int32) (-1 : Int32) (0 : Int32) else rt (-1 : Int32)
set_option maxRecDepth 100000 in
theorem C_X12_squeeze (Γ : Gam) (this : Nat) (p0 : Int32) (p1 : Int32) : Ct Γ mX12_squeeze 2 vI [va_rf (some this), .int p0, .int p1] (F_X12_squeeze this p0 p1) := by
  refine ct_in (lv := [(0, va_rf (some this)), (1, .int p0), (2, .int p1)]) (by decide) (by first | rfl | (simp only [lv_args, cat_rf]; rfl)) (by first | exact Nat.le_of_ble_eq_true rfl | (rw [lg_len]; simp only [List.map_cons, List.map_nil, cat_rf]; exact Nat.le_of_ble_eq_true rfl)) ?_
  unfold F_X12_squeeze
  refine ok_aload_n (dd TX12_squeeze_0 0 rfl) 0 rfl ?_
  refine ok_iconst (v := (0 : Int32)) (dd TX12_squeeze_0 1 rfl) (by decide) ?_
  refine ok_wI fl_RX12_90 (Or.inl rfl) (tyX12_ok 35 (by decide)) (by decide) rfl (dd TX12_squeeze_0 2 rfl) ?_
  refine ok_iload_n (dd TX12_squeeze_0 3 rfl) 1 rfl ?_
  refine ok_callSI [.int p0] [] (C_X12_isMonth Γ p0) cy_X12_isMonth ml_RX12_255 sm_X12_isMonth (by decide) (Nat.le_of_ble_eq_true rfl) rfl (dd TX12_squeeze_0 4 rfl) (fun v1 => ?_)
  refine ok_if_eq (tgt := 24) (dd TX12_squeeze_0 5 rfl) (by decide) ?_ ?_
  · refine ok_iconst (v := (-1 : Int32)) (dd TX12_squeeze_0 12 rfl) (by decide) ?_
    exact ok_ireturn (dd TX12_squeeze_0 13 rfl) rfl
  · refine ok_iload_n (dd TX12_squeeze_0 6 rfl) 2 rfl ?_
    refine ok_i2l (dd TX12_squeeze_0 7 rfl) ?_
    refine ok_lconst (v := (0 : Int64)) (dd TX12_squeeze_0 8 rfl) (by decide) ?_
    refine ok_ldc2 (v := (4 : Int64)) (dd TX12_squeeze_0 9 rfl) cl2_RX12_321 ?_
    refine ok_callSI [.long p1.toInt64, .long (0 : Int64), .long (4 : Int64)] [] (C_X12_in Γ p1.toInt64 (0 : Int64) (4 : Int64)) cy_X12_in ml_RX12_97 sm_X12_in (by decide) (Nat.le_of_ble_eq_true rfl) rfl (dd TX12_squeeze_0 10 rfl) (fun v2 => ?_)
    refine ok_if_ne (tgt := 26) (dd TX12_squeeze_0 11 rfl) (by decide) ?_ ?_
    · refine ok_iconst (v := (0 : Int32)) (dd TX12_squeeze_0 14 rfl) (by decide) ?_
      refine ok_istore_n (lv' := [(3, .int (0 : Int32)), (0, va_rf (some this)), (1, .int p0), (2, .int p1)]) (dd TX12_squeeze_0 15 rfl) (by decide) (by first | rfl | (simp only [List.filter, cat_rf]; rfl)) ?_
      refine ok_iconst (v := (-1 : Int32)) (dd TX12_squeeze_0 16 rfl) (by decide) ?_
      refine ok_istore (lv' := [(4, .int (-1 : Int32)), (3, .int (0 : Int32)), (0, va_rf (some this)), (1, .int p0), (2, .int p1)]) (dd TX12_squeeze_0 17 rfl) (by decide) (by first | rfl | (simp only [List.filter, cat_rf]; rfl)) ?_
      refine ok_iconst (v := (0 : Int32)) (dd TX12_squeeze_0 18 rfl) (by decide) ?_
      refine ok_istore (lv' := [(5, .int (0 : Int32)), (4, .int (-1 : Int32)), (3, .int (0 : Int32)), (0, va_rf (some this)), (1, .int p0), (2, .int p1)]) (dd TX12_squeeze_0 19 rfl) (by decide) (by first | rfl | (simp only [List.filter, cat_rf]; rfl)) ?_
      refine ok_sub [3, 4, 5, 2, 1, 0] rfl ?_
      exact O_X12_squeeze_L34 Γ FU this p0 p1 (0 : Int32) (-1 : Int32) (0 : Int32)
    · refine ok_iconst (v := (-1 : Int32)) (dd TX12_squeeze_0 12 rfl) (by decide) ?_
      exact ok_ireturn (dd TX12_squeeze_0 13 rfl) rfl
def F_X12_right (this : Nat) (p0 : Int32) (p1 : Int32) (p2 : Int32) : M Int32 := bn (wI 12 35 (some this) (0 : Int32)) fun _ => bn (F_X12_isMonth p0) fun v1 => if v1 = 0 then rz (0 : Int32) else bn (gI 12 24 (some this)) fun v2 => bn (F_X12_in p1.toInt64 (0 : Int64) ((v2 - (1 : Int32)).toInt64)) fun v3 => if v3 = 0 then rz (0 : Int32) else bn (F_X12_in p2.toInt64 (1 : Int64) (10000 : Int64)) fun v4 => if v4 = 0 then rz (0 : Int32) else bn (gP 12 25 (some this)) fun v5 => bn (lI 296 v5 (((6 : Int32) * p1) + p0)) fun v6 => if v6 = (-1 : Int32) then rz (0 : Int32) else bn (gI 12 30 (some this)) fun v7 => if ¬ v7 = (100 : Int32) then bn (gI 12 30 (some this)) fun v8 => bn (gP 12 29 (some this)) fun v9 => bn (stI 328 v9 ((4 : Int32) * v8) p0) fun _ => bn (gP 12 29 (some this)) fun v10 => bn (stI 328 v10 (((4 : Int32) * v8) + (1 : Int32)) p1) fun _ => bn (gP 12 29 (some this)) fun v11 => bn (stI 328 v11 (((4 : Int32) * v8) + (2 : Int32)) p2) fun _ => bn (gP 12 29 (some this)) fun v12 => bn (gI 12 24 (some this)) fun v13 => bn (stI 328 v12 (((4 : Int32) * v8) + (3 : Int32)) v13) fun _ => bn (gI 12 30 (some this)) fun v14 => bn (wI 12 30 (some this) (v14 + (1 : Int32))) fun _ => rz (1 : Int32) else rz (0 : Int32)
set_option maxRecDepth 100000 in
theorem C_X12_right (Γ : Gam) (this : Nat) (p0 : Int32) (p1 : Int32) (p2 : Int32) : Ct Γ mX12_right 2 vI [va_rf (some this), .int p0, .int p1, .int p2] (F_X12_right this p0 p1 p2) := by
  refine ct_in (lv := [(0, va_rf (some this)), (1, .int p0), (2, .int p1), (3, .int p2)]) (by decide) (by first | rfl | (simp only [lv_args, cat_rf]; rfl)) (by first | exact Nat.le_of_ble_eq_true rfl | (rw [lg_len]; simp only [List.map_cons, List.map_nil, cat_rf]; exact Nat.le_of_ble_eq_true rfl)) ?_
  unfold F_X12_right
  refine ok_aload_n (dd TX12_right_0 0 rfl) 0 rfl ?_
  refine ok_iconst (v := (0 : Int32)) (dd TX12_right_0 1 rfl) (by decide) ?_
  refine ok_wI fl_RX12_90 (Or.inl rfl) (tyX12_ok 35 (by decide)) (by decide) rfl (dd TX12_right_0 2 rfl) ?_
  refine ok_iload_n (dd TX12_right_0 3 rfl) 1 rfl ?_
  refine ok_callSI [.int p0] [] (C_X12_isMonth Γ p0) cy_X12_isMonth ml_RX12_255 sm_X12_isMonth (by decide) (Nat.le_of_ble_eq_true rfl) rfl (dd TX12_right_0 4 rfl) (fun v1 => ?_)
  refine ok_if_eq (tgt := 64) (dd TX12_right_0 5 rfl) (by decide) ?_ ?_
  · refine ok_iconst (v := (0 : Int32)) (dd TX12_right_0 36 rfl) (by decide) ?_
    exact ok_zreturn (dd TX12_right_0 37 rfl) rfl
  · refine ok_iload_n (dd TX12_right_0 6 rfl) 2 rfl ?_
    refine ok_i2l (dd TX12_right_0 7 rfl) ?_
    refine ok_lconst (v := (0 : Int64)) (dd TX12_right_0 8 rfl) (by decide) ?_
    refine ok_aload_n (dd TX12_right_0 9 rfl) 0 rfl ?_
    refine ok_gI fl_RX12_238 rfl (dd TX12_right_0 10 rfl) (fun v2 => ?_)
    refine ok_iconst (v := (1 : Int32)) (dd TX12_right_0 11 rfl) (by decide) ?_
    refine ok_isub (dd TX12_right_0 12 rfl) ?_
    refine ok_i2l (dd TX12_right_0 13 rfl) ?_
    refine ok_callSI [.long p1.toInt64, .long (0 : Int64), .long ((v2 - (1 : Int32)).toInt64)] [] (C_X12_in Γ p1.toInt64 (0 : Int64) ((v2 - (1 : Int32)).toInt64)) cy_X12_in ml_RX12_97 sm_X12_in (by decide) (Nat.le_of_ble_eq_true rfl) rfl (dd TX12_right_0 14 rfl) (fun v3 => ?_)
    refine ok_if_eq (tgt := 64) (dd TX12_right_0 15 rfl) (by decide) ?_ ?_
    · refine ok_iconst (v := (0 : Int32)) (dd TX12_right_0 36 rfl) (by decide) ?_
      exact ok_zreturn (dd TX12_right_0 37 rfl) rfl
    · refine ok_iload_n (dd TX12_right_0 16 rfl) 3 rfl ?_
      refine ok_i2l (dd TX12_right_0 17 rfl) ?_
      refine ok_lconst (v := (1 : Int64)) (dd TX12_right_0 18 rfl) (by decide) ?_
      refine ok_ldc2 (v := (10000 : Int64)) (dd TX12_right_0 19 rfl) cl2_RX12_260 ?_
      refine ok_callSI [.long p2.toInt64, .long (1 : Int64), .long (10000 : Int64)] [] (C_X12_in Γ p2.toInt64 (1 : Int64) (10000 : Int64)) cy_X12_in ml_RX12_97 sm_X12_in (by decide) (Nat.le_of_ble_eq_true rfl) rfl (dd TX12_right_0 20 rfl) (fun v4 => ?_)
      refine ok_if_eq (tgt := 64) (dd TX12_right_0 21 rfl) (by decide) ?_ ?_
      · refine ok_iconst (v := (0 : Int32)) (dd TX12_right_0 36 rfl) (by decide) ?_
        exact ok_zreturn (dd TX12_right_0 37 rfl) rfl
      · refine ok_aload_n (dd TX12_right_0 22 rfl) 0 rfl ?_
        refine ok_gP fl_RX12_63 rfl (dd TX12_right_0 23 rfl) (fun v5 => ?_)
        refine ok_bipush (v := (6 : Int32)) (dd TX12_right_0 24 rfl) (by decide) ?_
        refine ok_iload_n (dd TX12_right_0 25 rfl) 2 rfl ?_
        refine ok_imul (dd TX12_right_0 26 rfl) ?_
        refine ok_iload_n (dd TX12_right_0 27 rfl) 1 rfl ?_
        refine ok_iadd (dd TX12_right_0 28 rfl) ?_
        refine ok_lI (kd := 296) (by decide) rfl (dd TX12_right_0 29 rfl) (fun v6 => ?_)
        refine ok_iconst (v := (-1 : Int32)) (dd TX12_right_0 30 rfl) (by decide) ?_
        refine ok_icmp_eq (tgt := 64) (dd TX12_right_0 31 rfl) (by decide) ?_ ?_
        · refine ok_iconst (v := (0 : Int32)) (dd TX12_right_0 36 rfl) (by decide) ?_
          exact ok_zreturn (dd TX12_right_0 37 rfl) rfl
        · refine ok_aload_n (dd TX12_right_0 32 rfl) 0 rfl ?_
          refine ok_gI fl_RX12_235 rfl (dd TX12_right_0 33 rfl) (fun v7 => ?_)
          refine ok_bipush (v := (100 : Int32)) (dd TX12_right_0 34 rfl) (by decide) ?_
          refine ok_icmp_ne (tgt := 66) (dd TX12_right_0 35 rfl) (by decide) ?_ ?_
          · refine ok_iconst (v := (4 : Int32)) (dd TX12_right_0 38 rfl) (by decide) ?_
            refine ok_aload_n (dd TX12_right_0 39 rfl) 0 rfl ?_
            refine ok_gI fl_RX12_235 rfl (dd TX12_right_1 0 rfl) (fun v8 => ?_)
            refine ok_imul (dd TX12_right_1 1 rfl) ?_
            refine ok_istore (lv' := [(4, .int ((4 : Int32) * v8)), (0, va_rf (some this)), (1, .int p0), (2, .int p1), (3, .int p2)]) (dd TX12_right_1 2 rfl) (by decide) (by first | rfl | (simp only [List.filter, cat_rf]; rfl)) ?_
            refine ok_aload_n (dd TX12_right_1 3 rfl) 1 rfl ?_
            refine ok_gP fl_RX12_75 rfl (dd TX12_right_1 4 rfl) (fun v9 => ?_)
            refine ok_iload (dd TX12_right_1 5 rfl) 0 rfl ?_
            refine ok_iload_n (dd TX12_right_1 6 rfl) 2 rfl ?_
            refine ok_stI (kd := 328) (by decide) rfl (dd TX12_right_1 7 rfl) ?_
            refine ok_aload_n (dd TX12_right_1 8 rfl) 1 rfl ?_
            refine ok_gP fl_RX12_75 rfl (dd TX12_right_1 9 rfl) (fun v10 => ?_)
            refine ok_iload (dd TX12_right_1 10 rfl) 0 rfl ?_
            refine ok_iconst (v := (1 : Int32)) (dd TX12_right_1 11 rfl) (by decide) ?_
            refine ok_iadd (dd TX12_right_1 12 rfl) ?_
            refine ok_iload_n (dd TX12_right_1 13 rfl) 3 rfl ?_
            refine ok_stI (kd := 328) (by decide) rfl (dd TX12_right_1 14 rfl) ?_
            refine ok_aload_n (dd TX12_right_1 15 rfl) 1 rfl ?_
            refine ok_gP fl_RX12_75 rfl (dd TX12_right_1 16 rfl) (fun v11 => ?_)
            refine ok_iload (dd TX12_right_1 17 rfl) 0 rfl ?_
            refine ok_iconst (v := (2 : Int32)) (dd TX12_right_1 18 rfl) (by decide) ?_
            refine ok_iadd (dd TX12_right_1 19 rfl) ?_
            refine ok_iload_n (dd TX12_right_1 20 rfl) 4 rfl ?_
            refine ok_stI (kd := 328) (by decide) rfl (dd TX12_right_1 21 rfl) ?_
            refine ok_aload_n (dd TX12_right_1 22 rfl) 1 rfl ?_
            refine ok_gP fl_RX12_75 rfl (dd TX12_right_1 23 rfl) (fun v12 => ?_)
            refine ok_iload (dd TX12_right_1 24 rfl) 0 rfl ?_
            refine ok_iconst (v := (3 : Int32)) (dd TX12_right_1 25 rfl) (by decide) ?_
            refine ok_iadd (dd TX12_right_1 26 rfl) ?_
            refine ok_aload_n (dd TX12_right_1 27 rfl) 1 rfl ?_
            refine ok_gI fl_RX12_238 rfl (dd TX12_right_1 28 rfl) (fun v13 => ?_)
            refine ok_stI (kd := 328) (by decide) rfl (dd TX12_right_1 29 rfl) ?_
            refine ok_aload_n (dd TX12_right_1 30 rfl) 1 rfl ?_
            refine ok_dup (dd TX12_right_1 31 rfl) (by first | rfl | exact cat_rf _) ?_
            refine ok_gI fl_RX12_235 rfl (dd TX12_right_1 32 rfl) (fun v14 => ?_)
            refine ok_iconst (v := (1 : Int32)) (dd TX12_right_1 33 rfl) (by decide) ?_
            refine ok_iadd (dd TX12_right_1 34 rfl) ?_
            refine ok_wI fl_RX12_235 (Or.inl rfl) (tyX12_ok 30 (by decide)) (by decide) rfl (dd TX12_right_1 35 rfl) ?_
            refine ok_iconst (v := (1 : Int32)) (dd TX12_right_1 36 rfl) (by decide) ?_
            exact ok_zreturn (dd TX12_right_1 37 rfl) rfl
          · refine ok_iconst (v := (0 : Int32)) (dd TX12_right_0 36 rfl) (by decide) ?_
            exact ok_zreturn (dd TX12_right_0 37 rfl) rfl
def F_X12_settle (this : Nat) (p0 : Int32) (p1 : Int32) (p2 : Int32) : M Int32 := bn (wI 12 35 (some this) (0 : Int32)) fun _ => bn (F_X12_isMonth p0) fun v1 => if v1 = 0 then rt (-1 : Int32) else bn (gI 12 24 (some this)) fun v2 => bn (F_X12_in p1.toInt64 (0 : Int64) ((v2 - (1 : Int32)).toInt64)) fun v3 => if v3 = 0 then rt (-1 : Int32) else bn (gI 12 24 (some this)) fun v4 => bn (F_X12_in p2.toInt64 p1.toInt64 v4.toInt64) fun v5 => if v5 = 0 then rt (-1 : Int32) else bn (pRc 12 (some this)) fun b6 => bn (F_X12_settleOf b6 p0 p1 p2) fun v7 => rt v7
set_option maxRecDepth 100000 in
theorem C_X12_settle (Γ : Gam) (this : Nat) (p0 : Int32) (p1 : Int32) (p2 : Int32) : Ct Γ mX12_settle 2 vI [va_rf (some this), .int p0, .int p1, .int p2] (F_X12_settle this p0 p1 p2) := by
  refine ct_in (lv := [(0, va_rf (some this)), (1, .int p0), (2, .int p1), (3, .int p2)]) (by decide) (by first | rfl | (simp only [lv_args, cat_rf]; rfl)) (by first | exact Nat.le_of_ble_eq_true rfl | (rw [lg_len]; simp only [List.map_cons, List.map_nil, cat_rf]; exact Nat.le_of_ble_eq_true rfl)) ?_
  unfold F_X12_settle
  refine ok_aload_n (dd TX12_settle_0 0 rfl) 0 rfl ?_
  refine ok_iconst (v := (0 : Int32)) (dd TX12_settle_0 1 rfl) (by decide) ?_
  refine ok_wI fl_RX12_90 (Or.inl rfl) (tyX12_ok 35 (by decide)) (by decide) rfl (dd TX12_settle_0 2 rfl) ?_
  refine ok_iload_n (dd TX12_settle_0 3 rfl) 1 rfl ?_
  refine ok_callSI [.int p0] [] (C_X12_isMonth Γ p0) cy_X12_isMonth ml_RX12_255 sm_X12_isMonth (by decide) (Nat.le_of_ble_eq_true rfl) rfl (dd TX12_settle_0 4 rfl) (fun v1 => ?_)
  refine ok_if_eq (tgt := 53) (dd TX12_settle_0 5 rfl) (by decide) ?_ ?_
  · refine ok_iconst (v := (-1 : Int32)) (dd TX12_settle_0 31 rfl) (by decide) ?_
    exact ok_ireturn (dd TX12_settle_0 32 rfl) rfl
  · refine ok_iload_n (dd TX12_settle_0 6 rfl) 2 rfl ?_
    refine ok_i2l (dd TX12_settle_0 7 rfl) ?_
    refine ok_lconst (v := (0 : Int64)) (dd TX12_settle_0 8 rfl) (by decide) ?_
    refine ok_aload_n (dd TX12_settle_0 9 rfl) 0 rfl ?_
    refine ok_gI fl_RX12_238 rfl (dd TX12_settle_0 10 rfl) (fun v2 => ?_)
    refine ok_iconst (v := (1 : Int32)) (dd TX12_settle_0 11 rfl) (by decide) ?_
    refine ok_isub (dd TX12_settle_0 12 rfl) ?_
    refine ok_i2l (dd TX12_settle_0 13 rfl) ?_
    refine ok_callSI [.long p1.toInt64, .long (0 : Int64), .long ((v2 - (1 : Int32)).toInt64)] [] (C_X12_in Γ p1.toInt64 (0 : Int64) ((v2 - (1 : Int32)).toInt64)) cy_X12_in ml_RX12_97 sm_X12_in (by decide) (Nat.le_of_ble_eq_true rfl) rfl (dd TX12_settle_0 14 rfl) (fun v3 => ?_)
    refine ok_if_eq (tgt := 53) (dd TX12_settle_0 15 rfl) (by decide) ?_ ?_
    · refine ok_iconst (v := (-1 : Int32)) (dd TX12_settle_0 31 rfl) (by decide) ?_
      exact ok_ireturn (dd TX12_settle_0 32 rfl) rfl
    · refine ok_iload_n (dd TX12_settle_0 16 rfl) 3 rfl ?_
      refine ok_i2l (dd TX12_settle_0 17 rfl) ?_
      refine ok_iload_n (dd TX12_settle_0 18 rfl) 2 rfl ?_
      refine ok_i2l (dd TX12_settle_0 19 rfl) ?_
      refine ok_aload_n (dd TX12_settle_0 20 rfl) 0 rfl ?_
      refine ok_gI fl_RX12_238 rfl (dd TX12_settle_0 21 rfl) (fun v4 => ?_)
      refine ok_i2l (dd TX12_settle_0 22 rfl) ?_
      refine ok_callSI [.long p2.toInt64, .long p1.toInt64, .long v4.toInt64] [] (C_X12_in Γ p2.toInt64 p1.toInt64 v4.toInt64) cy_X12_in ml_RX12_97 sm_X12_in (by decide) (Nat.le_of_ble_eq_true rfl) rfl (dd TX12_settle_0 23 rfl) (fun v5 => ?_)
      refine ok_if_eq (tgt := 53) (dd TX12_settle_0 24 rfl) (by decide) ?_ ?_
      · refine ok_iconst (v := (-1 : Int32)) (dd TX12_settle_0 31 rfl) (by decide) ?_
        exact ok_ireturn (dd TX12_settle_0 32 rfl) rfl
      · refine ok_aload_n (dd TX12_settle_0 25 rfl) 0 rfl ?_
        refine ok_iload_n (dd TX12_settle_0 26 rfl) 1 rfl ?_
        refine ok_iload_n (dd TX12_settle_0 27 rfl) 2 rfl ?_
        refine ok_iload_n (dd TX12_settle_0 28 rfl) 3 rfl ?_
        refine ok_callVI (cn := 12) [.int p0, .int p1, .int p2] [] (fun b6 => C_X12_settleOf Γ b6 p0 p1 p2) rfl cy_X12_settleOf ml_RX12_241 im_X12_settleOf se_X12_settleOf (by decide) (Nat.le_of_ble_eq_true rfl) rfl (dd TX12_settle_0 29 rfl) (fun v7 => ?_)
        refine ok_goto (tgt := 54) (dd TX12_settle_0 30 rfl) (by decide) ?_
        exact ok_ireturn (dd TX12_settle_0 32 rfl) rfl
def F_X12_equity_L44 (this : Nat) : M Int64 := bn (wI 12 35 (some this) (1 : Int32)) fun _ => rt (0 : Int64)
set_option maxRecDepth 100000 in
theorem O_X12_equity_L44 (Γ : Gam) (this : Nat) : Ok Γ mX12_equity 2 (qo Γ vL) 44 [(0, va_rf (some this))] [] (F_X12_equity_L44 this) := by
  unfold F_X12_equity_L44
  refine ok_aload_n (dd TX12_equity_0 26 rfl) 0 rfl ?_
  refine ok_iconst (v := (1 : Int32)) (dd TX12_equity_0 27 rfl) (by decide) ?_
  refine ok_wI fl_RX12_90 (Or.inl rfl) (tyX12_ok 35 (by decide)) (by decide) rfl (dd TX12_equity_0 28 rfl) ?_
  refine ok_lconst (v := (0 : Int64)) (dd TX12_equity_0 29 rfl) (by decide) ?_
  exact ok_lreturn (dd TX12_equity_0 30 rfl) rfl
def F_X12_equity_L122 (k67 : Nat → Int32 → Int32 → Int32 → Int64 → Int32 → M Int64) (this : Nat) (x1 : Int32) (x2 : Int32) (x3 : Int32) (x6 : Int32) (x7 : Int32) (y0 : Int64) (y1 : Int64) : M Int64 := bn (gP 12 28 (some this)) fun v13 => bn (lL 321 v13 x7) fun v14 => k67 this x1 x2 x3 (y1 + (y0 - v14)) (x6 + (1 : Int32))
set_option maxRecDepth 100000 in
theorem O_X12_equity_L122 (Γ : Gam) (k67 : Nat → Int32 → Int32 → Int32 → Int64 → Int32 → M Int64) (hk67 : ∀ (z0 : Nat) (z1 : Int32) (z2 : Int32) (z3 : Int32) (z4 : Int64) (z6 : Int32), Ok Γ mX12_equity 2 (qo Γ vL) 67 [(0, va_rf (some z0)), (1, .int z1), (2, .int z2), (3, .int z3), (4, .long z4), (6, .int z6)] [] (k67 z0 z1 z2 z3 z4 z6)) (this : Nat) (x1 : Int32) (x2 : Int32) (x3 : Int32) (x6 : Int32) (x7 : Int32) (y0 : Int64) (y1 : Int64) : Ok Γ mX12_equity 2 (qo Γ vL) 122 [(0, va_rf (some this)), (1, .int x1), (2, .int x2), (3, .int x3), (6, .int x6), (7, .int x7)] [.long y0, .long y1] (F_X12_equity_L122 k67 this x1 x2 x3 x6 x7 y0 y1) := by
  unfold F_X12_equity_L122
  refine ok_aload_n (dd TX12_equity_1 35 rfl) 0 rfl ?_
  refine ok_gP fl_RX12_72 rfl (dd TX12_equity_1 36 rfl) (fun v13 => ?_)
  refine ok_iload (dd TX12_equity_1 37 rfl) 5 rfl ?_
  refine ok_lL (kd := 321) (by decide) rfl (dd TX12_equity_1 38 rfl) (fun v14 => ?_)
  refine ok_lsub (dd TX12_equity_1 39 rfl) ?_
  refine ok_ladd (dd TX12_equity_2 0 rfl) ?_
  refine ok_lstore (lv' := [(4, .long (y1 + (y0 - v14))), (0, va_rf (some this)), (1, .int x1), (2, .int x2), (3, .int x3), (6, .int x6), (7, .int x7)]) (dd TX12_equity_2 1 rfl) (by decide) (by first | rfl | (simp only [List.filter, cat_rf]; rfl)) ?_
  refine ok_iinc (lv' := [(6, .int (x6 + (1 : Int32))), (4, .long (y1 + (y0 - v14))), (0, va_rf (some this)), (1, .int x1), (2, .int x2), (3, .int x3), (7, .int x7)]) (dd TX12_equity_2 2 rfl) 5 rfl (congrArg (fun q : Int32 => x6 + q) (show Int32.ofInt (1) = (1 : Int32) from by decide)) (by decide) (by first | rfl | (simp only [List.filter, cat_rf]; rfl)) ?_
  refine ok_goto (tgt := 67) (dd TX12_equity_2 3 rfl) (by decide) ?_
  refine ok_sub [2, 3, 4, 5, 1, 0] rfl ?_
  exact hk67 this x1 x2 x3 (y1 + (y0 - v14)) (x6 + (1 : Int32))
def F_X12_equity_L67 : Nat → Nat → Int32 → Int32 → Int32 → Int64 → Int32 → M Int64
  | 0 => fun _ _ _ _ _ _ => fl
  | n + 1 => fun this x1 x2 x3 x4 x6 => if (6 : Int32) ≤ x6 then rt x4 else bn (pRc 12 (some this)) fun b9 => bn (F_X12_settleOf b9 x6 x2 x3) fun v10 => if ¬ v10 = (-1 : Int32) then bn (gP 12 27 (some this)) fun v11 => bn (lI 312 v11 ((((72 : Int32) * x2) + ((6 : Int32) * x1)) + x6)) fun v12 => F_X12_equity_L122 (F_X12_equity_L67 n) this x1 x2 x3 x6 ((((72 : Int32) * x2) + ((6 : Int32) * x1)) + x6) (v12.toInt64 * v10.toInt64) x4 else F_X12_equity_L122 (F_X12_equity_L67 n) this x1 x2 x3 x6 ((((72 : Int32) * x2) + ((6 : Int32) * x1)) + x6) (0 : Int64) x4
set_option maxRecDepth 100000 in
theorem O_X12_equity_L67 (Γ : Gam) (n : Nat) : ∀ (this : Nat) (x1 : Int32) (x2 : Int32) (x3 : Int32) (x4 : Int64) (x6 : Int32), Ok Γ mX12_equity 2 (qo Γ vL) 67 [(0, va_rf (some this)), (1, .int x1), (2, .int x2), (3, .int x3), (4, .long x4), (6, .int x6)] [] (F_X12_equity_L67 n this x1 x2 x3 x4 x6) := by
  induction n with
  | zero => intro this x1 x2 x3 x4 x6; exact ok_fl
  | succ n ih =>
    intro this x1 x2 x3 x4 x6
    rw [F_X12_equity_L67]
    refine ok_iload (dd TX12_equity_1 2 rfl) 5 rfl ?_
    refine ok_bipush (v := (6 : Int32)) (dd TX12_equity_1 3 rfl) (by decide) ?_
    refine ok_icmp_ge (tgt := 139) (dd TX12_equity_1 4 rfl) (by decide) ?_ ?_
    · refine ok_lload (dd TX12_equity_2 4 rfl) 4 rfl ?_
      exact ok_lreturn (dd TX12_equity_2 5 rfl) rfl
    · refine ok_bipush (v := (72 : Int32)) (dd TX12_equity_1 5 rfl) (by decide) ?_
      refine ok_iload_n (dd TX12_equity_1 6 rfl) 2 rfl ?_
      refine ok_imul (dd TX12_equity_1 7 rfl) ?_
      refine ok_bipush (v := (6 : Int32)) (dd TX12_equity_1 8 rfl) (by decide) ?_
      refine ok_iload_n (dd TX12_equity_1 9 rfl) 1 rfl ?_
      refine ok_imul (dd TX12_equity_1 10 rfl) ?_
      refine ok_iadd (dd TX12_equity_1 11 rfl) ?_
      refine ok_iload (dd TX12_equity_1 12 rfl) 5 rfl ?_
      refine ok_iadd (dd TX12_equity_1 13 rfl) ?_
      refine ok_istore (lv' := [(7, .int ((((72 : Int32) * x2) + ((6 : Int32) * x1)) + x6)), (0, va_rf (some this)), (1, .int x1), (2, .int x2), (3, .int x3), (4, .long x4), (6, .int x6)]) (dd TX12_equity_1 14 rfl) (by decide) (by first | rfl | (simp only [List.filter, cat_rf]; rfl)) ?_
      refine ok_aload_n (dd TX12_equity_1 15 rfl) 1 rfl ?_
      refine ok_iload (dd TX12_equity_1 16 rfl) 6 rfl ?_
      refine ok_iload_n (dd TX12_equity_1 17 rfl) 3 rfl ?_
      refine ok_iload_n (dd TX12_equity_1 18 rfl) 4 rfl ?_
      refine ok_callVI (cn := 12) [.int x6, .int x2, .int x3] [] (fun b9 => C_X12_settleOf Γ b9 x6 x2 x3) rfl cy_X12_settleOf ml_RX12_241 im_X12_settleOf se_X12_settleOf (by decide) (Nat.le_of_ble_eq_true rfl) rfl (dd TX12_equity_1 19 rfl) (fun v10 => ?_)
      refine ok_istore (lv' := [(8, .int v10), (7, .int ((((72 : Int32) * x2) + ((6 : Int32) * x1)) + x6)), (0, va_rf (some this)), (1, .int x1), (2, .int x2), (3, .int x3), (4, .long x4), (6, .int x6)]) (dd TX12_equity_1 20 rfl) (by decide) (by first | rfl | (simp only [List.filter, cat_rf]; rfl)) ?_
      refine ok_lload (dd TX12_equity_1 21 rfl) 6 rfl ?_
      refine ok_iload (dd TX12_equity_1 22 rfl) 0 rfl ?_
      refine ok_iconst (v := (-1 : Int32)) (dd TX12_equity_1 23 rfl) (by decide) ?_
      refine ok_icmp_ne (tgt := 110) (dd TX12_equity_1 24 rfl) (by decide) ?_ ?_
      · refine ok_aload_n (dd TX12_equity_1 27 rfl) 2 rfl ?_
        refine ok_gP fl_RX12_69 rfl (dd TX12_equity_1 28 rfl) (fun v11 => ?_)
        refine ok_iload (dd TX12_equity_1 29 rfl) 1 rfl ?_
        refine ok_lI (kd := 312) (by decide) rfl (dd TX12_equity_1 30 rfl) (fun v12 => ?_)
        refine ok_i2l (dd TX12_equity_1 31 rfl) ?_
        refine ok_iload (dd TX12_equity_1 32 rfl) 0 rfl ?_
        refine ok_i2l (dd TX12_equity_1 33 rfl) ?_
        refine ok_lmul (dd TX12_equity_1 34 rfl) ?_
        refine ok_sub [2, 3, 4, 5, 7, 1] rfl ?_
        exact O_X12_equity_L122 Γ (F_X12_equity_L67 n) ih this x1 x2 x3 x6 ((((72 : Int32) * x2) + ((6 : Int32) * x1)) + x6) (v12.toInt64 * v10.toInt64) x4
      · refine ok_lconst (v := (0 : Int64)) (dd TX12_equity_1 25 rfl) (by decide) ?_
        refine ok_goto (tgt := 122) (dd TX12_equity_1 26 rfl) (by decide) ?_
        refine ok_sub [2, 3, 4, 5, 7, 1] rfl ?_
        exact O_X12_equity_L122 Γ (F_X12_equity_L67 n) ih this x1 x2 x3 x6 ((((72 : Int32) * x2) + ((6 : Int32) * x1)) + x6) (0 : Int64) x4
def F_X12_equity (this : Nat) (p0 : Int32) (p1 : Int32) (p2 : Int32) : M Int64 := bn (wI 12 35 (some this) (0 : Int32)) fun _ => bn (pRc 12 (some this)) fun b1 => bn (F_X12_isMember b1 p0) fun v2 => if v2 = 0 then F_X12_equity_L44 this else bn (gI 12 24 (some this)) fun v3 => bn (F_X12_in p1.toInt64 (0 : Int64) ((v3 - (1 : Int32)).toInt64)) fun v4 => if v4 = 0 then F_X12_equity_L44 this else bn (gI 12 24 (some this)) fun v5 => bn (F_X12_in p2.toInt64 p1.toInt64 v5.toInt64) fun v6 => if ¬ v6 = 0 then bn (gP 12 26 (some this)) fun v7 => bn (lL 305 v7 (((12 : Int32) * p1) + p0)) fun v8 => F_X12_equity_L67 FU this p0 p1 p2 v8 (0 : Int32) else F_X12_equity_L44 this
set_option maxRecDepth 100000 in
theorem C_X12_equity (Γ : Gam) (this : Nat) (p0 : Int32) (p1 : Int32) (p2 : Int32) : Ct Γ mX12_equity 2 vL [va_rf (some this), .int p0, .int p1, .int p2] (F_X12_equity this p0 p1 p2) := by
  refine ct_in (lv := [(0, va_rf (some this)), (1, .int p0), (2, .int p1), (3, .int p2)]) (by decide) (by first | rfl | (simp only [lv_args, cat_rf]; rfl)) (by first | exact Nat.le_of_ble_eq_true rfl | (rw [lg_len]; simp only [List.map_cons, List.map_nil, cat_rf]; exact Nat.le_of_ble_eq_true rfl)) ?_
  unfold F_X12_equity
  refine ok_aload_n (dd TX12_equity_0 0 rfl) 0 rfl ?_
  refine ok_iconst (v := (0 : Int32)) (dd TX12_equity_0 1 rfl) (by decide) ?_
  refine ok_wI fl_RX12_90 (Or.inl rfl) (tyX12_ok 35 (by decide)) (by decide) rfl (dd TX12_equity_0 2 rfl) ?_
  refine ok_aload_n (dd TX12_equity_0 3 rfl) 0 rfl ?_
  refine ok_iload_n (dd TX12_equity_0 4 rfl) 1 rfl ?_
  refine ok_callVI (cn := 12) [.int p0] [] (fun b1 => C_X12_isMember Γ b1 p0) rfl cy_X12_isMember ml_RX12_252 im_X12_isMember se_X12_isMember (by decide) (Nat.le_of_ble_eq_true rfl) rfl (dd TX12_equity_0 5 rfl) (fun v2 => ?_)
  refine ok_if_eq (tgt := 44) (dd TX12_equity_0 6 rfl) (by decide) ?_ ?_
  · refine ok_sub [0] rfl ?_
    exact O_X12_equity_L44 Γ this
  · refine ok_iload_n (dd TX12_equity_0 7 rfl) 2 rfl ?_
    refine ok_i2l (dd TX12_equity_0 8 rfl) ?_
    refine ok_lconst (v := (0 : Int64)) (dd TX12_equity_0 9 rfl) (by decide) ?_
    refine ok_aload_n (dd TX12_equity_0 10 rfl) 0 rfl ?_
    refine ok_gI fl_RX12_238 rfl (dd TX12_equity_0 11 rfl) (fun v3 => ?_)
    refine ok_iconst (v := (1 : Int32)) (dd TX12_equity_0 12 rfl) (by decide) ?_
    refine ok_isub (dd TX12_equity_0 13 rfl) ?_
    refine ok_i2l (dd TX12_equity_0 14 rfl) ?_
    refine ok_callSI [.long p1.toInt64, .long (0 : Int64), .long ((v3 - (1 : Int32)).toInt64)] [] (C_X12_in Γ p1.toInt64 (0 : Int64) ((v3 - (1 : Int32)).toInt64)) cy_X12_in ml_RX12_97 sm_X12_in (by decide) (Nat.le_of_ble_eq_true rfl) rfl (dd TX12_equity_0 15 rfl) (fun v4 => ?_)
    refine ok_if_eq (tgt := 44) (dd TX12_equity_0 16 rfl) (by decide) ?_ ?_
    · refine ok_sub [0] rfl ?_
      exact O_X12_equity_L44 Γ this
    · refine ok_iload_n (dd TX12_equity_0 17 rfl) 3 rfl ?_
      refine ok_i2l (dd TX12_equity_0 18 rfl) ?_
      refine ok_iload_n (dd TX12_equity_0 19 rfl) 2 rfl ?_
      refine ok_i2l (dd TX12_equity_0 20 rfl) ?_
      refine ok_aload_n (dd TX12_equity_0 21 rfl) 0 rfl ?_
      refine ok_gI fl_RX12_238 rfl (dd TX12_equity_0 22 rfl) (fun v5 => ?_)
      refine ok_i2l (dd TX12_equity_0 23 rfl) ?_
      refine ok_callSI [.long p2.toInt64, .long p1.toInt64, .long v5.toInt64] [] (C_X12_in Γ p2.toInt64 p1.toInt64 v5.toInt64) cy_X12_in ml_RX12_97 sm_X12_in (by decide) (Nat.le_of_ble_eq_true rfl) rfl (dd TX12_equity_0 24 rfl) (fun v6 => ?_)
      refine ok_if_ne (tgt := 51) (dd TX12_equity_0 25 rfl) (by decide) ?_ ?_
      · refine ok_aload_n (dd TX12_equity_0 31 rfl) 0 rfl ?_
        refine ok_gP fl_RX12_66 rfl (dd TX12_equity_0 32 rfl) (fun v7 => ?_)
        refine ok_bipush (v := (12 : Int32)) (dd TX12_equity_0 33 rfl) (by decide) ?_
        refine ok_iload_n (dd TX12_equity_0 34 rfl) 2 rfl ?_
        refine ok_imul (dd TX12_equity_0 35 rfl) ?_
        refine ok_iload_n (dd TX12_equity_0 36 rfl) 1 rfl ?_
        refine ok_iadd (dd TX12_equity_0 37 rfl) ?_
        refine ok_lL (kd := 305) (by decide) rfl (dd TX12_equity_0 38 rfl) (fun v8 => ?_)
        refine ok_lstore (lv' := [(4, .long v8), (0, va_rf (some this)), (1, .int p0), (2, .int p1), (3, .int p2)]) (dd TX12_equity_0 39 rfl) (by decide) (by first | rfl | (simp only [List.filter, cat_rf]; rfl)) ?_
        refine ok_iconst (v := (0 : Int32)) (dd TX12_equity_1 0 rfl) (by decide) ?_
        refine ok_istore (lv' := [(6, .int (0 : Int32)), (4, .long v8), (0, va_rf (some this)), (1, .int p0), (2, .int p1), (3, .int p2)]) (dd TX12_equity_1 1 rfl) (by decide) (by first | rfl | (simp only [List.filter, cat_rf]; rfl)) ?_
        refine ok_sub [2, 3, 4, 5, 1, 0] rfl ?_
        exact O_X12_equity_L67 Γ FU this p0 p1 p2 v8 (0 : Int32)
      · refine ok_sub [0] rfl ?_
        exact O_X12_equity_L44 Γ this
def F_X12_readExpr_L52 (r_X12_readExpr : Nat → M Int32) (r_X12_readSum : Nat → M Int32) (r_X12_readPart : Nat → M Int32) (r_X12_readFactor : Nat → M Int32) (this : Nat) : M Int32 := bn (pRc 12 (some this)) fun b13 => bn (F_X12_isSign b13 (63 : Int32)) fun v14 => if ¬ v14 = 0 then bn (pRc 12 (some this)) fun b15 => bn (F_X12_opens b15) fun v16 => if v16 = 0 then rz (0 : Int32) else bn (pRc 12 (some this)) fun b17 => bn (r_X12_readExpr b17) fun v18 => if v18 = 0 then rz (0 : Int32) else bn (pRc 12 (some this)) fun b19 => bn (F_X12_takeSign b19 (58 : Int32)) fun v20 => if v20 = 0 then rz (0 : Int32) else bn (pRc 12 (some this)) fun b21 => bn (r_X12_readExpr b21) fun v22 => if ¬ v22 = 0 then bn (gI 12 43 (some this)) fun v23 => bn (wI 12 43 (some this) (v23 - (1 : Int32))) fun _ => rz (1 : Int32) else rz (0 : Int32) else rz (1 : Int32)
set_option maxRecDepth 100000 in
theorem O_X12_readExpr_L52 (Γ : Gam) (D : Nat) (hB : 7 ≤ D) (r_X12_readExpr : Nat → M Int32) (hr_X12_readExpr : ∀ (b : Nat), Ct Γ mX12_readExpr D vI [va_rf (some b)] (r_X12_readExpr b)) (r_X12_readSum : Nat → M Int32) (hr_X12_readSum : ∀ (b : Nat), Ct Γ mX12_readSum D vI [va_rf (some b)] (r_X12_readSum b)) (r_X12_readPart : Nat → M Int32) (hr_X12_readPart : ∀ (b : Nat), Ct Γ mX12_readPart D vI [va_rf (some b)] (r_X12_readPart b)) (r_X12_readFactor : Nat → M Int32) (hr_X12_readFactor : ∀ (b : Nat), Ct Γ mX12_readFactor D vI [va_rf (some b)] (r_X12_readFactor b)) (this : Nat) : Ok Γ mX12_readExpr (D + 1) (qo Γ vI) 52 [(0, va_rf (some this))] [] (F_X12_readExpr_L52 r_X12_readExpr r_X12_readSum r_X12_readPart r_X12_readFactor this) := by
  unfold F_X12_readExpr_L52
  refine ok_aload_n (dd TX12_readExpr_0 25 rfl) 0 rfl ?_
  refine ok_bipush (v := (63 : Int32)) (dd TX12_readExpr_0 26 rfl) (by decide) ?_
  refine ok_callVI (cn := 12) [.int (63 : Int32)] [] (fun b13 => C_X12_isSign Γ b13 (63 : Int32)) rfl cy_X12_isSign ml_RX12_174 im_X12_isSign se_X12_isSign (by omega) (Nat.le_of_ble_eq_true rfl) rfl (dd TX12_readExpr_0 27 rfl) (fun v14 => ?_)
  refine ok_if_ne (tgt := 63) (dd TX12_readExpr_0 28 rfl) (by decide) ?_ ?_
  · refine ok_aload_n (dd TX12_readExpr_0 31 rfl) 0 rfl ?_
    refine ok_callVI (cn := 12) [] [] (fun b15 => C_X12_opens Γ b15) rfl cy_X12_opens ml_RX12_187 im_X12_opens se_X12_opens (by omega) (Nat.le_of_ble_eq_true rfl) rfl (dd TX12_readExpr_0 32 rfl) (fun v16 => ?_)
    refine ok_if_eq (tgt := 93) (dd TX12_readExpr_0 33 rfl) (by decide) ?_ ?_
    · refine ok_iconst (v := (0 : Int32)) (dd TX12_readExpr_1 4 rfl) (by decide) ?_
      exact ok_zreturn (dd TX12_readExpr_1 5 rfl) rfl
    · refine ok_aload_n (dd TX12_readExpr_0 34 rfl) 0 rfl ?_
      refine ok_callVI (cn := 12) [] [] (fun b17 => hr_X12_readExpr b17) rfl cy_X12_readExpr ml_RX12_190 im_X12_readExpr se_X12_readExpr (Nat.le_refl _) (Nat.le_of_ble_eq_true rfl) rfl (dd TX12_readExpr_0 35 rfl) (fun v18 => ?_)
      refine ok_if_eq (tgt := 93) (dd TX12_readExpr_0 36 rfl) (by decide) ?_ ?_
      · refine ok_iconst (v := (0 : Int32)) (dd TX12_readExpr_1 4 rfl) (by decide) ?_
        exact ok_zreturn (dd TX12_readExpr_1 5 rfl) rfl
      · refine ok_aload_n (dd TX12_readExpr_0 37 rfl) 0 rfl ?_
        refine ok_bipush (v := (58 : Int32)) (dd TX12_readExpr_0 38 rfl) (by decide) ?_
        refine ok_callVI (cn := 12) [.int (58 : Int32)] [] (fun b19 => C_X12_takeSign Γ b19 (58 : Int32)) rfl cy_X12_takeSign ml_RX12_193 im_X12_takeSign se_X12_takeSign (by omega) (Nat.le_of_ble_eq_true rfl) rfl (dd TX12_readExpr_0 39 rfl) (fun v20 => ?_)
        refine ok_if_eq (tgt := 93) (dd TX12_readExpr_1 0 rfl) (by decide) ?_ ?_
        · refine ok_iconst (v := (0 : Int32)) (dd TX12_readExpr_1 4 rfl) (by decide) ?_
          exact ok_zreturn (dd TX12_readExpr_1 5 rfl) rfl
        · refine ok_aload_n (dd TX12_readExpr_1 1 rfl) 0 rfl ?_
          refine ok_callVI (cn := 12) [] [] (fun b21 => hr_X12_readExpr b21) rfl cy_X12_readExpr ml_RX12_190 im_X12_readExpr se_X12_readExpr (Nat.le_refl _) (Nat.le_of_ble_eq_true rfl) rfl (dd TX12_readExpr_1 2 rfl) (fun v22 => ?_)
          refine ok_if_ne (tgt := 95) (dd TX12_readExpr_1 3 rfl) (by decide) ?_ ?_
          · refine ok_aload_n (dd TX12_readExpr_1 6 rfl) 0 rfl ?_
            refine ok_dup (dd TX12_readExpr_1 7 rfl) (by first | rfl | exact cat_rf _) ?_
            refine ok_gI fl_RX12_181 rfl (dd TX12_readExpr_1 8 rfl) (fun v23 => ?_)
            refine ok_iconst (v := (1 : Int32)) (dd TX12_readExpr_1 9 rfl) (by decide) ?_
            refine ok_isub (dd TX12_readExpr_1 10 rfl) ?_
            refine ok_wI fl_RX12_181 (Or.inl rfl) (tyX12_ok 43 (by decide)) (by decide) rfl (dd TX12_readExpr_1 11 rfl) ?_
            refine ok_iconst (v := (1 : Int32)) (dd TX12_readExpr_1 12 rfl) (by decide) ?_
            exact ok_zreturn (dd TX12_readExpr_1 13 rfl) rfl
          · refine ok_iconst (v := (0 : Int32)) (dd TX12_readExpr_1 4 rfl) (by decide) ?_
            exact ok_zreturn (dd TX12_readExpr_1 5 rfl) rfl
  · refine ok_iconst (v := (1 : Int32)) (dd TX12_readExpr_0 29 rfl) (by decide) ?_
    exact ok_zreturn (dd TX12_readExpr_0 30 rfl) rfl
def F_X12_readExpr_L36 (r_X12_readExpr : Nat → M Int32) (r_X12_readSum : Nat → M Int32) (r_X12_readPart : Nat → M Int32) (r_X12_readFactor : Nat → M Int32) (this : Nat) : M Int32 := bn (pRc 12 (some this)) fun b9 => bn (F_X12_take b9) fun v10 => if v10 = 0 then rz (0 : Int32) else bn (pRc 12 (some this)) fun b11 => bn (r_X12_readSum b11) fun v12 => if ¬ v12 = 0 then F_X12_readExpr_L52 r_X12_readExpr r_X12_readSum r_X12_readPart r_X12_readFactor this else rz (0 : Int32)
set_option maxRecDepth 100000 in
theorem O_X12_readExpr_L36 (Γ : Gam) (D : Nat) (hB : 7 ≤ D) (r_X12_readExpr : Nat → M Int32) (hr_X12_readExpr : ∀ (b : Nat), Ct Γ mX12_readExpr D vI [va_rf (some b)] (r_X12_readExpr b)) (r_X12_readSum : Nat → M Int32) (hr_X12_readSum : ∀ (b : Nat), Ct Γ mX12_readSum D vI [va_rf (some b)] (r_X12_readSum b)) (r_X12_readPart : Nat → M Int32) (hr_X12_readPart : ∀ (b : Nat), Ct Γ mX12_readPart D vI [va_rf (some b)] (r_X12_readPart b)) (r_X12_readFactor : Nat → M Int32) (hr_X12_readFactor : ∀ (b : Nat), Ct Γ mX12_readFactor D vI [va_rf (some b)] (r_X12_readFactor b)) (this : Nat) : Ok Γ mX12_readExpr (D + 1) (qo Γ vI) 36 [(0, va_rf (some this))] [] (F_X12_readExpr_L36 r_X12_readExpr r_X12_readSum r_X12_readPart r_X12_readFactor this) := by
  unfold F_X12_readExpr_L36
  refine ok_aload_n (dd TX12_readExpr_0 17 rfl) 0 rfl ?_
  refine ok_callVI (cn := 12) [] [] (fun b9 => C_X12_take Γ b9) rfl cy_X12_take ml_RX12_177 im_X12_take se_X12_take (by omega) (Nat.le_of_ble_eq_true rfl) rfl (dd TX12_readExpr_0 18 rfl) (fun v10 => ?_)
  refine ok_if_eq (tgt := 50) (dd TX12_readExpr_0 19 rfl) (by decide) ?_ ?_
  · refine ok_iconst (v := (0 : Int32)) (dd TX12_readExpr_0 23 rfl) (by decide) ?_
    exact ok_zreturn (dd TX12_readExpr_0 24 rfl) rfl
  · refine ok_aload_n (dd TX12_readExpr_0 20 rfl) 0 rfl ?_
    refine ok_callVI (cn := 12) [] [] (fun b11 => hr_X12_readSum b11) rfl cy_X12_readSum ml_RX12_184 im_X12_readSum se_X12_readSum (Nat.le_refl _) (Nat.le_of_ble_eq_true rfl) rfl (dd TX12_readExpr_0 21 rfl) (fun v12 => ?_)
    refine ok_if_ne (tgt := 52) (dd TX12_readExpr_0 22 rfl) (by decide) ?_ ?_
    · exact O_X12_readExpr_L52 Γ D hB r_X12_readExpr hr_X12_readExpr r_X12_readSum hr_X12_readSum r_X12_readPart hr_X12_readPart r_X12_readFactor hr_X12_readFactor this
    · refine ok_iconst (v := (0 : Int32)) (dd TX12_readExpr_0 23 rfl) (by decide) ?_
      exact ok_zreturn (dd TX12_readExpr_0 24 rfl) rfl
def F_X12_readExpr_B (r_X12_readExpr : Nat → M Int32) (r_X12_readSum : Nat → M Int32) (r_X12_readPart : Nat → M Int32) (r_X12_readFactor : Nat → M Int32) (this : Nat) : M Int32 := bn (pRc 12 (some this)) fun b1 => bn (r_X12_readSum b1) fun v2 => if ¬ v2 = 0 then bn (pRc 12 (some this)) fun b3 => bn (F_X12_isSign b3 (60 : Int32)) fun v4 => if ¬ v4 = 0 then F_X12_readExpr_L36 r_X12_readExpr r_X12_readSum r_X12_readPart r_X12_readFactor this else bn (pRc 12 (some this)) fun b5 => bn (F_X12_isSign b5 (62 : Int32)) fun v6 => if ¬ v6 = 0 then F_X12_readExpr_L36 r_X12_readExpr r_X12_readSum r_X12_readPart r_X12_readFactor this else bn (pRc 12 (some this)) fun b7 => bn (F_X12_isSign b7 (61 : Int32)) fun v8 => if v8 = 0 then F_X12_readExpr_L52 r_X12_readExpr r_X12_readSum r_X12_readPart r_X12_readFactor this else F_X12_readExpr_L36 r_X12_readExpr r_X12_readSum r_X12_readPart r_X12_readFactor this else rz (0 : Int32)
set_option maxRecDepth 100000 in
theorem C_X12_readExpr_B (Γ : Gam) (D : Nat) (hB : 7 ≤ D) (r_X12_readExpr : Nat → M Int32) (hr_X12_readExpr : ∀ (b : Nat), Ct Γ mX12_readExpr D vI [va_rf (some b)] (r_X12_readExpr b)) (r_X12_readSum : Nat → M Int32) (hr_X12_readSum : ∀ (b : Nat), Ct Γ mX12_readSum D vI [va_rf (some b)] (r_X12_readSum b)) (r_X12_readPart : Nat → M Int32) (hr_X12_readPart : ∀ (b : Nat), Ct Γ mX12_readPart D vI [va_rf (some b)] (r_X12_readPart b)) (r_X12_readFactor : Nat → M Int32) (hr_X12_readFactor : ∀ (b : Nat), Ct Γ mX12_readFactor D vI [va_rf (some b)] (r_X12_readFactor b)) (this : Nat) : Ct Γ mX12_readExpr (D + 1) vI [va_rf (some this)] (F_X12_readExpr_B r_X12_readExpr r_X12_readSum r_X12_readPart r_X12_readFactor this) := by
  refine ct_in (lv := [(0, va_rf (some this))]) (by decide) (by first | rfl | (simp only [lv_args, cat_rf]; rfl)) (by first | exact Nat.le_of_ble_eq_true rfl | (rw [lg_len]; simp only [List.map_cons, List.map_nil, cat_rf]; exact Nat.le_of_ble_eq_true rfl)) ?_
  unfold F_X12_readExpr_B
  refine ok_aload_n (dd TX12_readExpr_0 0 rfl) 0 rfl ?_
  refine ok_callVI (cn := 12) [] [] (fun b1 => hr_X12_readSum b1) rfl cy_X12_readSum ml_RX12_184 im_X12_readSum se_X12_readSum (Nat.le_refl _) (Nat.le_of_ble_eq_true rfl) rfl (dd TX12_readExpr_0 1 rfl) (fun v2 => ?_)
  refine ok_if_ne (tgt := 9) (dd TX12_readExpr_0 2 rfl) (by decide) ?_ ?_
  · refine ok_aload_n (dd TX12_readExpr_0 5 rfl) 0 rfl ?_
    refine ok_bipush (v := (60 : Int32)) (dd TX12_readExpr_0 6 rfl) (by decide) ?_
    refine ok_callVI (cn := 12) [.int (60 : Int32)] [] (fun b3 => C_X12_isSign Γ b3 (60 : Int32)) rfl cy_X12_isSign ml_RX12_174 im_X12_isSign se_X12_isSign (by omega) (Nat.le_of_ble_eq_true rfl) rfl (dd TX12_readExpr_0 7 rfl) (fun v4 => ?_)
    refine ok_if_ne (tgt := 36) (dd TX12_readExpr_0 8 rfl) (by decide) ?_ ?_
    · exact O_X12_readExpr_L36 Γ D hB r_X12_readExpr hr_X12_readExpr r_X12_readSum hr_X12_readSum r_X12_readPart hr_X12_readPart r_X12_readFactor hr_X12_readFactor this
    · refine ok_aload_n (dd TX12_readExpr_0 9 rfl) 0 rfl ?_
      refine ok_bipush (v := (62 : Int32)) (dd TX12_readExpr_0 10 rfl) (by decide) ?_
      refine ok_callVI (cn := 12) [.int (62 : Int32)] [] (fun b5 => C_X12_isSign Γ b5 (62 : Int32)) rfl cy_X12_isSign ml_RX12_174 im_X12_isSign se_X12_isSign (by omega) (Nat.le_of_ble_eq_true rfl) rfl (dd TX12_readExpr_0 11 rfl) (fun v6 => ?_)
      refine ok_if_ne (tgt := 36) (dd TX12_readExpr_0 12 rfl) (by decide) ?_ ?_
      · exact O_X12_readExpr_L36 Γ D hB r_X12_readExpr hr_X12_readExpr r_X12_readSum hr_X12_readSum r_X12_readPart hr_X12_readPart r_X12_readFactor hr_X12_readFactor this
      · refine ok_aload_n (dd TX12_readExpr_0 13 rfl) 0 rfl ?_
        refine ok_bipush (v := (61 : Int32)) (dd TX12_readExpr_0 14 rfl) (by decide) ?_
        refine ok_callVI (cn := 12) [.int (61 : Int32)] [] (fun b7 => C_X12_isSign Γ b7 (61 : Int32)) rfl cy_X12_isSign ml_RX12_174 im_X12_isSign se_X12_isSign (by omega) (Nat.le_of_ble_eq_true rfl) rfl (dd TX12_readExpr_0 15 rfl) (fun v8 => ?_)
        refine ok_if_eq (tgt := 52) (dd TX12_readExpr_0 16 rfl) (by decide) ?_ ?_
        · exact O_X12_readExpr_L52 Γ D hB r_X12_readExpr hr_X12_readExpr r_X12_readSum hr_X12_readSum r_X12_readPart hr_X12_readPart r_X12_readFactor hr_X12_readFactor this
        · exact O_X12_readExpr_L36 Γ D hB r_X12_readExpr hr_X12_readExpr r_X12_readSum hr_X12_readSum r_X12_readPart hr_X12_readPart r_X12_readFactor hr_X12_readFactor this
  · refine ok_iconst (v := (0 : Int32)) (dd TX12_readExpr_0 3 rfl) (by decide) ?_
    exact ok_zreturn (dd TX12_readExpr_0 4 rfl) rfl
def F_X12_readSum_L27 (r_X12_readExpr : Nat → M Int32) (r_X12_readSum : Nat → M Int32) (r_X12_readPart : Nat → M Int32) (r_X12_readFactor : Nat → M Int32) (k9 : Nat → M Int32) (this : Nat) : M Int32 := bn (pRc 12 (some this)) fun b7 => bn (F_X12_take b7) fun v8 => if v8 = 0 then rz (0 : Int32) else bn (pRc 12 (some this)) fun b9 => bn (r_X12_readPart b9) fun v10 => if ¬ v10 = 0 then k9 this else rz (0 : Int32)
set_option maxRecDepth 100000 in
theorem O_X12_readSum_L27 (Γ : Gam) (D : Nat) (hB : 7 ≤ D) (r_X12_readExpr : Nat → M Int32) (hr_X12_readExpr : ∀ (b : Nat), Ct Γ mX12_readExpr D vI [va_rf (some b)] (r_X12_readExpr b)) (r_X12_readSum : Nat → M Int32) (hr_X12_readSum : ∀ (b : Nat), Ct Γ mX12_readSum D vI [va_rf (some b)] (r_X12_readSum b)) (r_X12_readPart : Nat → M Int32) (hr_X12_readPart : ∀ (b : Nat), Ct Γ mX12_readPart D vI [va_rf (some b)] (r_X12_readPart b)) (r_X12_readFactor : Nat → M Int32) (hr_X12_readFactor : ∀ (b : Nat), Ct Γ mX12_readFactor D vI [va_rf (some b)] (r_X12_readFactor b)) (k9 : Nat → M Int32) (hk9 : ∀ (z0 : Nat), Ok Γ mX12_readSum (D + 1) (qo Γ vI) 9 [(0, va_rf (some z0))] [] (k9 z0)) (this : Nat) : Ok Γ mX12_readSum (D + 1) (qo Γ vI) 27 [(0, va_rf (some this))] [] (F_X12_readSum_L27 r_X12_readExpr r_X12_readSum r_X12_readPart r_X12_readFactor k9 this) := by
  unfold F_X12_readSum_L27
  refine ok_aload_n (dd TX12_readSum_0 13 rfl) 0 rfl ?_
  refine ok_callVI (cn := 12) [] [] (fun b7 => C_X12_take Γ b7) rfl cy_X12_take ml_RX12_177 im_X12_take se_X12_take (by omega) (Nat.le_of_ble_eq_true rfl) rfl (dd TX12_readSum_0 14 rfl) (fun v8 => ?_)
  refine ok_if_eq (tgt := 41) (dd TX12_readSum_0 15 rfl) (by decide) ?_ ?_
  · refine ok_iconst (v := (0 : Int32)) (dd TX12_readSum_0 19 rfl) (by decide) ?_
    exact ok_zreturn (dd TX12_readSum_0 20 rfl) rfl
  · refine ok_aload_n (dd TX12_readSum_0 16 rfl) 0 rfl ?_
    refine ok_callVI (cn := 12) [] [] (fun b9 => hr_X12_readPart b9) rfl cy_X12_readPart ml_RX12_196 im_X12_readPart se_X12_readPart (Nat.le_refl _) (Nat.le_of_ble_eq_true rfl) rfl (dd TX12_readSum_0 17 rfl) (fun v10 => ?_)
    refine ok_if_ne (tgt := 9) (dd TX12_readSum_0 18 rfl) (by decide) ?_ ?_
    · exact hk9 this
    · refine ok_iconst (v := (0 : Int32)) (dd TX12_readSum_0 19 rfl) (by decide) ?_
      exact ok_zreturn (dd TX12_readSum_0 20 rfl) rfl
def F_X12_readSum_L9 (r_X12_readExpr : Nat → M Int32) (r_X12_readSum : Nat → M Int32) (r_X12_readPart : Nat → M Int32) (r_X12_readFactor : Nat → M Int32) : Nat → Nat → M Int32
  | 0 => fun _ => fl
  | n + 1 => fun this => bn (pRc 12 (some this)) fun b3 => bn (F_X12_isSign b3 (43 : Int32)) fun v4 => if ¬ v4 = 0 then F_X12_readSum_L27 r_X12_readExpr r_X12_readSum r_X12_readPart r_X12_readFactor (F_X12_readSum_L9 r_X12_readExpr r_X12_readSum r_X12_readPart r_X12_readFactor n) this else bn (pRc 12 (some this)) fun b5 => bn (F_X12_isSign b5 (45 : Int32)) fun v6 => if v6 = 0 then rz (1 : Int32) else F_X12_readSum_L27 r_X12_readExpr r_X12_readSum r_X12_readPart r_X12_readFactor (F_X12_readSum_L9 r_X12_readExpr r_X12_readSum r_X12_readPart r_X12_readFactor n) this
set_option maxRecDepth 100000 in
theorem O_X12_readSum_L9 (Γ : Gam) (D : Nat) (hB : 7 ≤ D) (r_X12_readExpr : Nat → M Int32) (hr_X12_readExpr : ∀ (b : Nat), Ct Γ mX12_readExpr D vI [va_rf (some b)] (r_X12_readExpr b)) (r_X12_readSum : Nat → M Int32) (hr_X12_readSum : ∀ (b : Nat), Ct Γ mX12_readSum D vI [va_rf (some b)] (r_X12_readSum b)) (r_X12_readPart : Nat → M Int32) (hr_X12_readPart : ∀ (b : Nat), Ct Γ mX12_readPart D vI [va_rf (some b)] (r_X12_readPart b)) (r_X12_readFactor : Nat → M Int32) (hr_X12_readFactor : ∀ (b : Nat), Ct Γ mX12_readFactor D vI [va_rf (some b)] (r_X12_readFactor b)) (n : Nat) : ∀ (this : Nat), Ok Γ mX12_readSum (D + 1) (qo Γ vI) 9 [(0, va_rf (some this))] [] (F_X12_readSum_L9 r_X12_readExpr r_X12_readSum r_X12_readPart r_X12_readFactor n this) := by
  induction n with
  | zero => intro this; exact ok_fl
  | succ n ih =>
    intro this
    rw [F_X12_readSum_L9]
    refine ok_aload_n (dd TX12_readSum_0 5 rfl) 0 rfl ?_
    refine ok_bipush (v := (43 : Int32)) (dd TX12_readSum_0 6 rfl) (by decide) ?_
    refine ok_callVI (cn := 12) [.int (43 : Int32)] [] (fun b3 => C_X12_isSign Γ b3 (43 : Int32)) rfl cy_X12_isSign ml_RX12_174 im_X12_isSign se_X12_isSign (by omega) (Nat.le_of_ble_eq_true rfl) rfl (dd TX12_readSum_0 7 rfl) (fun v4 => ?_)
    refine ok_if_ne (tgt := 27) (dd TX12_readSum_0 8 rfl) (by decide) ?_ ?_
    · exact O_X12_readSum_L27 Γ D hB r_X12_readExpr hr_X12_readExpr r_X12_readSum hr_X12_readSum r_X12_readPart hr_X12_readPart r_X12_readFactor hr_X12_readFactor (F_X12_readSum_L9 r_X12_readExpr r_X12_readSum r_X12_readPart r_X12_readFactor n) ih this
    · refine ok_aload_n (dd TX12_readSum_0 9 rfl) 0 rfl ?_
      refine ok_bipush (v := (45 : Int32)) (dd TX12_readSum_0 10 rfl) (by decide) ?_
      refine ok_callVI (cn := 12) [.int (45 : Int32)] [] (fun b5 => C_X12_isSign Γ b5 (45 : Int32)) rfl cy_X12_isSign ml_RX12_174 im_X12_isSign se_X12_isSign (by omega) (Nat.le_of_ble_eq_true rfl) rfl (dd TX12_readSum_0 11 rfl) (fun v6 => ?_)
      refine ok_if_eq (tgt := 43) (dd TX12_readSum_0 12 rfl) (by decide) ?_ ?_
      · refine ok_iconst (v := (1 : Int32)) (dd TX12_readSum_0 21 rfl) (by decide) ?_
        exact ok_zreturn (dd TX12_readSum_0 22 rfl) rfl
      · exact O_X12_readSum_L27 Γ D hB r_X12_readExpr hr_X12_readExpr r_X12_readSum hr_X12_readSum r_X12_readPart hr_X12_readPart r_X12_readFactor hr_X12_readFactor (F_X12_readSum_L9 r_X12_readExpr r_X12_readSum r_X12_readPart r_X12_readFactor n) ih this
def F_X12_readSum_B (r_X12_readExpr : Nat → M Int32) (r_X12_readSum : Nat → M Int32) (r_X12_readPart : Nat → M Int32) (r_X12_readFactor : Nat → M Int32) (this : Nat) : M Int32 := bn (pRc 12 (some this)) fun b1 => bn (r_X12_readPart b1) fun v2 => if ¬ v2 = 0 then F_X12_readSum_L9 r_X12_readExpr r_X12_readSum r_X12_readPart r_X12_readFactor FU this else rz (0 : Int32)
set_option maxRecDepth 100000 in
theorem C_X12_readSum_B (Γ : Gam) (D : Nat) (hB : 7 ≤ D) (r_X12_readExpr : Nat → M Int32) (hr_X12_readExpr : ∀ (b : Nat), Ct Γ mX12_readExpr D vI [va_rf (some b)] (r_X12_readExpr b)) (r_X12_readSum : Nat → M Int32) (hr_X12_readSum : ∀ (b : Nat), Ct Γ mX12_readSum D vI [va_rf (some b)] (r_X12_readSum b)) (r_X12_readPart : Nat → M Int32) (hr_X12_readPart : ∀ (b : Nat), Ct Γ mX12_readPart D vI [va_rf (some b)] (r_X12_readPart b)) (r_X12_readFactor : Nat → M Int32) (hr_X12_readFactor : ∀ (b : Nat), Ct Γ mX12_readFactor D vI [va_rf (some b)] (r_X12_readFactor b)) (this : Nat) : Ct Γ mX12_readSum (D + 1) vI [va_rf (some this)] (F_X12_readSum_B r_X12_readExpr r_X12_readSum r_X12_readPart r_X12_readFactor this) := by
  refine ct_in (lv := [(0, va_rf (some this))]) (by decide) (by first | rfl | (simp only [lv_args, cat_rf]; rfl)) (by first | exact Nat.le_of_ble_eq_true rfl | (rw [lg_len]; simp only [List.map_cons, List.map_nil, cat_rf]; exact Nat.le_of_ble_eq_true rfl)) ?_
  unfold F_X12_readSum_B
  refine ok_aload_n (dd TX12_readSum_0 0 rfl) 0 rfl ?_
  refine ok_callVI (cn := 12) [] [] (fun b1 => hr_X12_readPart b1) rfl cy_X12_readPart ml_RX12_196 im_X12_readPart se_X12_readPart (Nat.le_refl _) (Nat.le_of_ble_eq_true rfl) rfl (dd TX12_readSum_0 1 rfl) (fun v2 => ?_)
  refine ok_if_ne (tgt := 9) (dd TX12_readSum_0 2 rfl) (by decide) ?_ ?_
  · exact O_X12_readSum_L9 Γ D hB r_X12_readExpr hr_X12_readExpr r_X12_readSum hr_X12_readSum r_X12_readPart hr_X12_readPart r_X12_readFactor hr_X12_readFactor FU this
  · refine ok_iconst (v := (0 : Int32)) (dd TX12_readSum_0 3 rfl) (by decide) ?_
    exact ok_zreturn (dd TX12_readSum_0 4 rfl) rfl
def F_X12_readPart_L27 (r_X12_readExpr : Nat → M Int32) (r_X12_readSum : Nat → M Int32) (r_X12_readPart : Nat → M Int32) (r_X12_readFactor : Nat → M Int32) (k9 : Nat → M Int32) (this : Nat) : M Int32 := bn (pRc 12 (some this)) fun b7 => bn (F_X12_take b7) fun v8 => if v8 = 0 then rz (0 : Int32) else bn (pRc 12 (some this)) fun b9 => bn (r_X12_readFactor b9) fun v10 => if ¬ v10 = 0 then k9 this else rz (0 : Int32)
set_option maxRecDepth 100000 in
theorem O_X12_readPart_L27 (Γ : Gam) (D : Nat) (hB : 7 ≤ D) (r_X12_readExpr : Nat → M Int32) (hr_X12_readExpr : ∀ (b : Nat), Ct Γ mX12_readExpr D vI [va_rf (some b)] (r_X12_readExpr b)) (r_X12_readSum : Nat → M Int32) (hr_X12_readSum : ∀ (b : Nat), Ct Γ mX12_readSum D vI [va_rf (some b)] (r_X12_readSum b)) (r_X12_readPart : Nat → M Int32) (hr_X12_readPart : ∀ (b : Nat), Ct Γ mX12_readPart D vI [va_rf (some b)] (r_X12_readPart b)) (r_X12_readFactor : Nat → M Int32) (hr_X12_readFactor : ∀ (b : Nat), Ct Γ mX12_readFactor D vI [va_rf (some b)] (r_X12_readFactor b)) (k9 : Nat → M Int32) (hk9 : ∀ (z0 : Nat), Ok Γ mX12_readPart (D + 1) (qo Γ vI) 9 [(0, va_rf (some z0))] [] (k9 z0)) (this : Nat) : Ok Γ mX12_readPart (D + 1) (qo Γ vI) 27 [(0, va_rf (some this))] [] (F_X12_readPart_L27 r_X12_readExpr r_X12_readSum r_X12_readPart r_X12_readFactor k9 this) := by
  unfold F_X12_readPart_L27
  refine ok_aload_n (dd TX12_readPart_0 13 rfl) 0 rfl ?_
  refine ok_callVI (cn := 12) [] [] (fun b7 => C_X12_take Γ b7) rfl cy_X12_take ml_RX12_177 im_X12_take se_X12_take (by omega) (Nat.le_of_ble_eq_true rfl) rfl (dd TX12_readPart_0 14 rfl) (fun v8 => ?_)
  refine ok_if_eq (tgt := 41) (dd TX12_readPart_0 15 rfl) (by decide) ?_ ?_
  · refine ok_iconst (v := (0 : Int32)) (dd TX12_readPart_0 19 rfl) (by decide) ?_
    exact ok_zreturn (dd TX12_readPart_0 20 rfl) rfl
  · refine ok_aload_n (dd TX12_readPart_0 16 rfl) 0 rfl ?_
    refine ok_callVI (cn := 12) [] [] (fun b9 => hr_X12_readFactor b9) rfl cy_X12_readFactor ml_RX12_199 im_X12_readFactor se_X12_readFactor (Nat.le_refl _) (Nat.le_of_ble_eq_true rfl) rfl (dd TX12_readPart_0 17 rfl) (fun v10 => ?_)
    refine ok_if_ne (tgt := 9) (dd TX12_readPart_0 18 rfl) (by decide) ?_ ?_
    · exact hk9 this
    · refine ok_iconst (v := (0 : Int32)) (dd TX12_readPart_0 19 rfl) (by decide) ?_
      exact ok_zreturn (dd TX12_readPart_0 20 rfl) rfl
def F_X12_readPart_L9 (r_X12_readExpr : Nat → M Int32) (r_X12_readSum : Nat → M Int32) (r_X12_readPart : Nat → M Int32) (r_X12_readFactor : Nat → M Int32) : Nat → Nat → M Int32
  | 0 => fun _ => fl
  | n + 1 => fun this => bn (pRc 12 (some this)) fun b3 => bn (F_X12_isSign b3 (42 : Int32)) fun v4 => if ¬ v4 = 0 then F_X12_readPart_L27 r_X12_readExpr r_X12_readSum r_X12_readPart r_X12_readFactor (F_X12_readPart_L9 r_X12_readExpr r_X12_readSum r_X12_readPart r_X12_readFactor n) this else bn (pRc 12 (some this)) fun b5 => bn (F_X12_isSign b5 (47 : Int32)) fun v6 => if v6 = 0 then rz (1 : Int32) else F_X12_readPart_L27 r_X12_readExpr r_X12_readSum r_X12_readPart r_X12_readFactor (F_X12_readPart_L9 r_X12_readExpr r_X12_readSum r_X12_readPart r_X12_readFactor n) this
set_option maxRecDepth 100000 in
theorem O_X12_readPart_L9 (Γ : Gam) (D : Nat) (hB : 7 ≤ D) (r_X12_readExpr : Nat → M Int32) (hr_X12_readExpr : ∀ (b : Nat), Ct Γ mX12_readExpr D vI [va_rf (some b)] (r_X12_readExpr b)) (r_X12_readSum : Nat → M Int32) (hr_X12_readSum : ∀ (b : Nat), Ct Γ mX12_readSum D vI [va_rf (some b)] (r_X12_readSum b)) (r_X12_readPart : Nat → M Int32) (hr_X12_readPart : ∀ (b : Nat), Ct Γ mX12_readPart D vI [va_rf (some b)] (r_X12_readPart b)) (r_X12_readFactor : Nat → M Int32) (hr_X12_readFactor : ∀ (b : Nat), Ct Γ mX12_readFactor D vI [va_rf (some b)] (r_X12_readFactor b)) (n : Nat) : ∀ (this : Nat), Ok Γ mX12_readPart (D + 1) (qo Γ vI) 9 [(0, va_rf (some this))] [] (F_X12_readPart_L9 r_X12_readExpr r_X12_readSum r_X12_readPart r_X12_readFactor n this) := by
  induction n with
  | zero => intro this; exact ok_fl
  | succ n ih =>
    intro this
    rw [F_X12_readPart_L9]
    refine ok_aload_n (dd TX12_readPart_0 5 rfl) 0 rfl ?_
    refine ok_bipush (v := (42 : Int32)) (dd TX12_readPart_0 6 rfl) (by decide) ?_
    refine ok_callVI (cn := 12) [.int (42 : Int32)] [] (fun b3 => C_X12_isSign Γ b3 (42 : Int32)) rfl cy_X12_isSign ml_RX12_174 im_X12_isSign se_X12_isSign (by omega) (Nat.le_of_ble_eq_true rfl) rfl (dd TX12_readPart_0 7 rfl) (fun v4 => ?_)
    refine ok_if_ne (tgt := 27) (dd TX12_readPart_0 8 rfl) (by decide) ?_ ?_
    · exact O_X12_readPart_L27 Γ D hB r_X12_readExpr hr_X12_readExpr r_X12_readSum hr_X12_readSum r_X12_readPart hr_X12_readPart r_X12_readFactor hr_X12_readFactor (F_X12_readPart_L9 r_X12_readExpr r_X12_readSum r_X12_readPart r_X12_readFactor n) ih this
    · refine ok_aload_n (dd TX12_readPart_0 9 rfl) 0 rfl ?_
      refine ok_bipush (v := (47 : Int32)) (dd TX12_readPart_0 10 rfl) (by decide) ?_
      refine ok_callVI (cn := 12) [.int (47 : Int32)] [] (fun b5 => C_X12_isSign Γ b5 (47 : Int32)) rfl cy_X12_isSign ml_RX12_174 im_X12_isSign se_X12_isSign (by omega) (Nat.le_of_ble_eq_true rfl) rfl (dd TX12_readPart_0 11 rfl) (fun v6 => ?_)
      refine ok_if_eq (tgt := 43) (dd TX12_readPart_0 12 rfl) (by decide) ?_ ?_
      · refine ok_iconst (v := (1 : Int32)) (dd TX12_readPart_0 21 rfl) (by decide) ?_
        exact ok_zreturn (dd TX12_readPart_0 22 rfl) rfl
      · exact O_X12_readPart_L27 Γ D hB r_X12_readExpr hr_X12_readExpr r_X12_readSum hr_X12_readSum r_X12_readPart hr_X12_readPart r_X12_readFactor hr_X12_readFactor (F_X12_readPart_L9 r_X12_readExpr r_X12_readSum r_X12_readPart r_X12_readFactor n) ih this
def F_X12_readPart_B (r_X12_readExpr : Nat → M Int32) (r_X12_readSum : Nat → M Int32) (r_X12_readPart : Nat → M Int32) (r_X12_readFactor : Nat → M Int32) (this : Nat) : M Int32 := bn (pRc 12 (some this)) fun b1 => bn (r_X12_readFactor b1) fun v2 => if ¬ v2 = 0 then F_X12_readPart_L9 r_X12_readExpr r_X12_readSum r_X12_readPart r_X12_readFactor FU this else rz (0 : Int32)
set_option maxRecDepth 100000 in
theorem C_X12_readPart_B (Γ : Gam) (D : Nat) (hB : 7 ≤ D) (r_X12_readExpr : Nat → M Int32) (hr_X12_readExpr : ∀ (b : Nat), Ct Γ mX12_readExpr D vI [va_rf (some b)] (r_X12_readExpr b)) (r_X12_readSum : Nat → M Int32) (hr_X12_readSum : ∀ (b : Nat), Ct Γ mX12_readSum D vI [va_rf (some b)] (r_X12_readSum b)) (r_X12_readPart : Nat → M Int32) (hr_X12_readPart : ∀ (b : Nat), Ct Γ mX12_readPart D vI [va_rf (some b)] (r_X12_readPart b)) (r_X12_readFactor : Nat → M Int32) (hr_X12_readFactor : ∀ (b : Nat), Ct Γ mX12_readFactor D vI [va_rf (some b)] (r_X12_readFactor b)) (this : Nat) : Ct Γ mX12_readPart (D + 1) vI [va_rf (some this)] (F_X12_readPart_B r_X12_readExpr r_X12_readSum r_X12_readPart r_X12_readFactor this) := by
  refine ct_in (lv := [(0, va_rf (some this))]) (by decide) (by first | rfl | (simp only [lv_args, cat_rf]; rfl)) (by first | exact Nat.le_of_ble_eq_true rfl | (rw [lg_len]; simp only [List.map_cons, List.map_nil, cat_rf]; exact Nat.le_of_ble_eq_true rfl)) ?_
  unfold F_X12_readPart_B
  refine ok_aload_n (dd TX12_readPart_0 0 rfl) 0 rfl ?_
  refine ok_callVI (cn := 12) [] [] (fun b1 => hr_X12_readFactor b1) rfl cy_X12_readFactor ml_RX12_199 im_X12_readFactor se_X12_readFactor (Nat.le_refl _) (Nat.le_of_ble_eq_true rfl) rfl (dd TX12_readPart_0 1 rfl) (fun v2 => ?_)
  refine ok_if_ne (tgt := 9) (dd TX12_readPart_0 2 rfl) (by decide) ?_ ?_
  · exact O_X12_readPart_L9 Γ D hB r_X12_readExpr hr_X12_readExpr r_X12_readSum hr_X12_readSum r_X12_readPart hr_X12_readPart r_X12_readFactor hr_X12_readFactor FU this
  · refine ok_iconst (v := (0 : Int32)) (dd TX12_readPart_0 3 rfl) (by decide) ?_
    exact ok_zreturn (dd TX12_readPart_0 4 rfl) rfl
def F_X12_readFactor_L165 (r_X12_readExpr : Nat → M Int32) (r_X12_readSum : Nat → M Int32) (r_X12_readPart : Nat → M Int32) (r_X12_readFactor : Nat → M Int32) (this : Nat) : M Int32 := bn (pRc 12 (some this)) fun b32 => bn (F_X12_takeSign b32 (41 : Int32)) fun v33 => if ¬ v33 = 0 then bn (gI 12 43 (some this)) fun v34 => bn (wI 12 43 (some this) (v34 - (1 : Int32))) fun _ => rz (1 : Int32) else rz (0 : Int32)
set_option maxRecDepth 100000 in
theorem O_X12_readFactor_L165 (Γ : Gam) (D : Nat) (hB : 7 ≤ D) (r_X12_readExpr : Nat → M Int32) (hr_X12_readExpr : ∀ (b : Nat), Ct Γ mX12_readExpr D vI [va_rf (some b)] (r_X12_readExpr b)) (r_X12_readSum : Nat → M Int32) (hr_X12_readSum : ∀ (b : Nat), Ct Γ mX12_readSum D vI [va_rf (some b)] (r_X12_readSum b)) (r_X12_readPart : Nat → M Int32) (hr_X12_readPart : ∀ (b : Nat), Ct Γ mX12_readPart D vI [va_rf (some b)] (r_X12_readPart b)) (r_X12_readFactor : Nat → M Int32) (hr_X12_readFactor : ∀ (b : Nat), Ct Γ mX12_readFactor D vI [va_rf (some b)] (r_X12_readFactor b)) (this : Nat) : Ok Γ mX12_readFactor (D + 1) (qo Γ vI) 165 [(0, va_rf (some this))] [] (F_X12_readFactor_L165 r_X12_readExpr r_X12_readSum r_X12_readPart r_X12_readFactor this) := by
  unfold F_X12_readFactor_L165
  refine ok_aload_n (dd TX12_readFactor_2 5 rfl) 0 rfl ?_
  refine ok_bipush (v := (41 : Int32)) (dd TX12_readFactor_2 6 rfl) (by decide) ?_
  refine ok_callVI (cn := 12) [.int (41 : Int32)] [] (fun b32 => C_X12_takeSign Γ b32 (41 : Int32)) rfl cy_X12_takeSign ml_RX12_193 im_X12_takeSign se_X12_takeSign (by omega) (Nat.le_of_ble_eq_true rfl) rfl (dd TX12_readFactor_2 7 rfl) (fun v33 => ?_)
  refine ok_if_ne (tgt := 176) (dd TX12_readFactor_2 8 rfl) (by decide) ?_ ?_
  · refine ok_aload_n (dd TX12_readFactor_2 11 rfl) 0 rfl ?_
    refine ok_dup (dd TX12_readFactor_2 12 rfl) (by first | rfl | exact cat_rf _) ?_
    refine ok_gI fl_RX12_181 rfl (dd TX12_readFactor_2 13 rfl) (fun v34 => ?_)
    refine ok_iconst (v := (1 : Int32)) (dd TX12_readFactor_2 14 rfl) (by decide) ?_
    refine ok_isub (dd TX12_readFactor_2 15 rfl) ?_
    refine ok_wI fl_RX12_181 (Or.inl rfl) (tyX12_ok 43 (by decide)) (by decide) rfl (dd TX12_readFactor_2 16 rfl) ?_
    refine ok_iconst (v := (1 : Int32)) (dd TX12_readFactor_2 17 rfl) (by decide) ?_
    exact ok_zreturn (dd TX12_readFactor_2 18 rfl) rfl
  · refine ok_iconst (v := (0 : Int32)) (dd TX12_readFactor_2 9 rfl) (by decide) ?_
    exact ok_zreturn (dd TX12_readFactor_2 10 rfl) rfl
def F_X12_readFactor_L112 (r_X12_readExpr : Nat → M Int32) (r_X12_readSum : Nat → M Int32) (r_X12_readPart : Nat → M Int32) (r_X12_readFactor : Nat → M Int32) (this : Nat) (x1 : Int32) : M Int32 := bn (pRc 12 (some this)) fun b20 => bn (F_X12_isSign b20 (40 : Int32)) fun v21 => if ¬ v21 = 0 then bn (pRc 12 (some this)) fun b22 => bn (F_X12_opens b22) fun v23 => if v23 = 0 then rz (0 : Int32) else bn (pRc 12 (some this)) fun b24 => bn (r_X12_readExpr b24) fun v25 => if ¬ v25 = 0 then if x1 = 0 then F_X12_readFactor_L165 r_X12_readExpr r_X12_readSum r_X12_readPart r_X12_readFactor this else bn (pRc 12 (some this)) fun b26 => bn (F_X12_takeSign b26 (44 : Int32)) fun v27 => if v27 = 0 then rz (0 : Int32) else bn (pRc 12 (some this)) fun b28 => bn (r_X12_readExpr b28) fun v29 => if ¬ v29 = 0 then F_X12_readFactor_L165 r_X12_readExpr r_X12_readSum r_X12_readPart r_X12_readFactor this else rz (0 : Int32) else rz (0 : Int32) else bn (pRc 12 (some this)) fun b30 => bn (F_X12_fails b30 (2 : Int32)) fun v31 => rz v31
set_option maxRecDepth 100000 in
theorem O_X12_readFactor_L112 (Γ : Gam) (D : Nat) (hB : 7 ≤ D) (r_X12_readExpr : Nat → M Int32) (hr_X12_readExpr : ∀ (b : Nat), Ct Γ mX12_readExpr D vI [va_rf (some b)] (r_X12_readExpr b)) (r_X12_readSum : Nat → M Int32) (hr_X12_readSum : ∀ (b : Nat), Ct Γ mX12_readSum D vI [va_rf (some b)] (r_X12_readSum b)) (r_X12_readPart : Nat → M Int32) (hr_X12_readPart : ∀ (b : Nat), Ct Γ mX12_readPart D vI [va_rf (some b)] (r_X12_readPart b)) (r_X12_readFactor : Nat → M Int32) (hr_X12_readFactor : ∀ (b : Nat), Ct Γ mX12_readFactor D vI [va_rf (some b)] (r_X12_readFactor b)) (this : Nat) (x1 : Int32) : Ok Γ mX12_readFactor (D + 1) (qo Γ vI) 112 [(0, va_rf (some this)), (1, .int x1)] [] (F_X12_readFactor_L112 r_X12_readExpr r_X12_readSum r_X12_readPart r_X12_readFactor this x1) := by
  unfold F_X12_readFactor_L112
  refine ok_aload_n (dd TX12_readFactor_1 18 rfl) 0 rfl ?_
  refine ok_bipush (v := (40 : Int32)) (dd TX12_readFactor_1 19 rfl) (by decide) ?_
  refine ok_callVI (cn := 12) [.int (40 : Int32)] [] (fun b20 => C_X12_isSign Γ b20 (40 : Int32)) rfl cy_X12_isSign ml_RX12_174 im_X12_isSign se_X12_isSign (by omega) (Nat.le_of_ble_eq_true rfl) rfl (dd TX12_readFactor_1 20 rfl) (fun v21 => ?_)
  refine ok_if_ne (tgt := 127) (dd TX12_readFactor_1 21 rfl) (by decide) ?_ ?_
  · refine ok_aload_n (dd TX12_readFactor_1 26 rfl) 0 rfl ?_
    refine ok_callVI (cn := 12) [] [] (fun b22 => C_X12_opens Γ b22) rfl cy_X12_opens ml_RX12_187 im_X12_opens se_X12_opens (by omega) (Nat.le_of_ble_eq_true rfl) rfl (dd TX12_readFactor_1 27 rfl) (fun v23 => ?_)
    refine ok_if_eq (tgt := 141) (dd TX12_readFactor_1 28 rfl) (by decide) ?_ ?_
    · refine ok_iconst (v := (0 : Int32)) (dd TX12_readFactor_1 32 rfl) (by decide) ?_
      exact ok_zreturn (dd TX12_readFactor_1 33 rfl) rfl
    · refine ok_aload_n (dd TX12_readFactor_1 29 rfl) 0 rfl ?_
      refine ok_callVI (cn := 12) [] [] (fun b24 => hr_X12_readExpr b24) rfl cy_X12_readExpr ml_RX12_190 im_X12_readExpr se_X12_readExpr (Nat.le_refl _) (Nat.le_of_ble_eq_true rfl) rfl (dd TX12_readFactor_1 30 rfl) (fun v25 => ?_)
      refine ok_if_ne (tgt := 143) (dd TX12_readFactor_1 31 rfl) (by decide) ?_ ?_
      · refine ok_iload_n (dd TX12_readFactor_1 34 rfl) 1 rfl ?_
        refine ok_if_eq (tgt := 165) (dd TX12_readFactor_1 35 rfl) (by decide) ?_ ?_
        · refine ok_sub [0] rfl ?_
          exact O_X12_readFactor_L165 Γ D hB r_X12_readExpr hr_X12_readExpr r_X12_readSum hr_X12_readSum r_X12_readPart hr_X12_readPart r_X12_readFactor hr_X12_readFactor this
        · refine ok_aload_n (dd TX12_readFactor_1 36 rfl) 0 rfl ?_
          refine ok_bipush (v := (44 : Int32)) (dd TX12_readFactor_1 37 rfl) (by decide) ?_
          refine ok_callVI (cn := 12) [.int (44 : Int32)] [] (fun b26 => C_X12_takeSign Γ b26 (44 : Int32)) rfl cy_X12_takeSign ml_RX12_193 im_X12_takeSign se_X12_takeSign (by omega) (Nat.le_of_ble_eq_true rfl) rfl (dd TX12_readFactor_1 38 rfl) (fun v27 => ?_)
          refine ok_if_eq (tgt := 163) (dd TX12_readFactor_1 39 rfl) (by decide) ?_ ?_
          · refine ok_iconst (v := (0 : Int32)) (dd TX12_readFactor_2 3 rfl) (by decide) ?_
            exact ok_zreturn (dd TX12_readFactor_2 4 rfl) rfl
          · refine ok_aload_n (dd TX12_readFactor_2 0 rfl) 0 rfl ?_
            refine ok_callVI (cn := 12) [] [] (fun b28 => hr_X12_readExpr b28) rfl cy_X12_readExpr ml_RX12_190 im_X12_readExpr se_X12_readExpr (Nat.le_refl _) (Nat.le_of_ble_eq_true rfl) rfl (dd TX12_readFactor_2 1 rfl) (fun v29 => ?_)
            refine ok_if_ne (tgt := 165) (dd TX12_readFactor_2 2 rfl) (by decide) ?_ ?_
            · refine ok_sub [0] rfl ?_
              exact O_X12_readFactor_L165 Γ D hB r_X12_readExpr hr_X12_readExpr r_X12_readSum hr_X12_readSum r_X12_readPart hr_X12_readPart r_X12_readFactor hr_X12_readFactor this
            · refine ok_iconst (v := (0 : Int32)) (dd TX12_readFactor_2 3 rfl) (by decide) ?_
              exact ok_zreturn (dd TX12_readFactor_2 4 rfl) rfl
      · refine ok_iconst (v := (0 : Int32)) (dd TX12_readFactor_1 32 rfl) (by decide) ?_
        exact ok_zreturn (dd TX12_readFactor_1 33 rfl) rfl
  · refine ok_aload_n (dd TX12_readFactor_1 22 rfl) 0 rfl ?_
    refine ok_iconst (v := (2 : Int32)) (dd TX12_readFactor_1 23 rfl) (by decide) ?_
    refine ok_callVI (cn := 12) [.int (2 : Int32)] [] (fun b30 => C_X12_fails Γ b30 (2 : Int32)) rfl cy_X12_fails ml_RX12_165 im_X12_fails se_X12_fails (by omega) (Nat.le_of_ble_eq_true rfl) rfl (dd TX12_readFactor_1 24 rfl) (fun v31 => ?_)
    exact ok_zreturn (dd TX12_readFactor_1 25 rfl) rfl
def F_X12_readFactor_L98 (r_X12_readExpr : Nat → M Int32) (r_X12_readSum : Nat → M Int32) (r_X12_readPart : Nat → M Int32) (r_X12_readFactor : Nat → M Int32) (this : Nat) (y0 : Int32) : M Int32 := if y0 = 0 then F_X12_readFactor_L112 r_X12_readExpr r_X12_readSum r_X12_readPart r_X12_readFactor this y0 else bn (pRc 12 (some this)) fun b18 => bn (F_X12_take b18) fun v19 => if ¬ v19 = 0 then F_X12_readFactor_L112 r_X12_readExpr r_X12_readSum r_X12_readPart r_X12_readFactor this y0 else rz (0 : Int32)
set_option maxRecDepth 100000 in
theorem O_X12_readFactor_L98 (Γ : Gam) (D : Nat) (hB : 7 ≤ D) (r_X12_readExpr : Nat → M Int32) (hr_X12_readExpr : ∀ (b : Nat), Ct Γ mX12_readExpr D vI [va_rf (some b)] (r_X12_readExpr b)) (r_X12_readSum : Nat → M Int32) (hr_X12_readSum : ∀ (b : Nat), Ct Γ mX12_readSum D vI [va_rf (some b)] (r_X12_readSum b)) (r_X12_readPart : Nat → M Int32) (hr_X12_readPart : ∀ (b : Nat), Ct Γ mX12_readPart D vI [va_rf (some b)] (r_X12_readPart b)) (r_X12_readFactor : Nat → M Int32) (hr_X12_readFactor : ∀ (b : Nat), Ct Γ mX12_readFactor D vI [va_rf (some b)] (r_X12_readFactor b)) (this : Nat) (y0 : Int32) : Ok Γ mX12_readFactor (D + 1) (qo Γ vI) 98 [(0, va_rf (some this))] [.int y0] (F_X12_readFactor_L98 r_X12_readExpr r_X12_readSum r_X12_readPart r_X12_readFactor this y0) := by
  unfold F_X12_readFactor_L98
  refine ok_istore_n (lv' := [(1, .int y0), (0, va_rf (some this))]) (dd TX12_readFactor_1 10 rfl) (by decide) (by first | rfl | (simp only [List.filter, cat_rf]; rfl)) ?_
  refine ok_iload_n (dd TX12_readFactor_1 11 rfl) 0 rfl ?_
  refine ok_if_eq (tgt := 112) (dd TX12_readFactor_1 12 rfl) (by decide) ?_ ?_
  · refine ok_sub [1, 0] rfl ?_
    exact O_X12_readFactor_L112 Γ D hB r_X12_readExpr hr_X12_readExpr r_X12_readSum hr_X12_readSum r_X12_readPart hr_X12_readPart r_X12_readFactor hr_X12_readFactor this y0
  · refine ok_aload_n (dd TX12_readFactor_1 13 rfl) 1 rfl ?_
    refine ok_callVI (cn := 12) [] [] (fun b18 => C_X12_take Γ b18) rfl cy_X12_take ml_RX12_177 im_X12_take se_X12_take (by omega) (Nat.le_of_ble_eq_true rfl) rfl (dd TX12_readFactor_1 14 rfl) (fun v19 => ?_)
    refine ok_if_ne (tgt := 112) (dd TX12_readFactor_1 15 rfl) (by decide) ?_ ?_
    · refine ok_sub [1, 0] rfl ?_
      exact O_X12_readFactor_L112 Γ D hB r_X12_readExpr hr_X12_readExpr r_X12_readSum hr_X12_readSum r_X12_readPart hr_X12_readPart r_X12_readFactor hr_X12_readFactor this y0
    · refine ok_iconst (v := (0 : Int32)) (dd TX12_readFactor_1 16 rfl) (by decide) ?_
      exact ok_zreturn (dd TX12_readFactor_1 17 rfl) rfl
def F_X12_readFactor_L97 (r_X12_readExpr : Nat → M Int32) (r_X12_readSum : Nat → M Int32) (r_X12_readPart : Nat → M Int32) (r_X12_readFactor : Nat → M Int32) (this : Nat) : M Int32 := F_X12_readFactor_L98 r_X12_readExpr r_X12_readSum r_X12_readPart r_X12_readFactor this (0 : Int32)
set_option maxRecDepth 100000 in
theorem O_X12_readFactor_L97 (Γ : Gam) (D : Nat) (hB : 7 ≤ D) (r_X12_readExpr : Nat → M Int32) (hr_X12_readExpr : ∀ (b : Nat), Ct Γ mX12_readExpr D vI [va_rf (some b)] (r_X12_readExpr b)) (r_X12_readSum : Nat → M Int32) (hr_X12_readSum : ∀ (b : Nat), Ct Γ mX12_readSum D vI [va_rf (some b)] (r_X12_readSum b)) (r_X12_readPart : Nat → M Int32) (hr_X12_readPart : ∀ (b : Nat), Ct Γ mX12_readPart D vI [va_rf (some b)] (r_X12_readPart b)) (r_X12_readFactor : Nat → M Int32) (hr_X12_readFactor : ∀ (b : Nat), Ct Γ mX12_readFactor D vI [va_rf (some b)] (r_X12_readFactor b)) (this : Nat) : Ok Γ mX12_readFactor (D + 1) (qo Γ vI) 97 [(0, va_rf (some this))] [] (F_X12_readFactor_L97 r_X12_readExpr r_X12_readSum r_X12_readPart r_X12_readFactor this) := by
  unfold F_X12_readFactor_L97
  refine ok_iconst (v := (0 : Int32)) (dd TX12_readFactor_1 9 rfl) (by decide) ?_
  exact O_X12_readFactor_L98 Γ D hB r_X12_readExpr hr_X12_readExpr r_X12_readSum hr_X12_readSum r_X12_readPart hr_X12_readPart r_X12_readFactor hr_X12_readFactor this (0 : Int32)
def F_X12_readFactor_L93 (r_X12_readExpr : Nat → M Int32) (r_X12_readSum : Nat → M Int32) (r_X12_readPart : Nat → M Int32) (r_X12_readFactor : Nat → M Int32) (this : Nat) : M Int32 := F_X12_readFactor_L98 r_X12_readExpr r_X12_readSum r_X12_readPart r_X12_readFactor this (1 : Int32)
set_option maxRecDepth 100000 in
theorem O_X12_readFactor_L93 (Γ : Gam) (D : Nat) (hB : 7 ≤ D) (r_X12_readExpr : Nat → M Int32) (hr_X12_readExpr : ∀ (b : Nat), Ct Γ mX12_readExpr D vI [va_rf (some b)] (r_X12_readExpr b)) (r_X12_readSum : Nat → M Int32) (hr_X12_readSum : ∀ (b : Nat), Ct Γ mX12_readSum D vI [va_rf (some b)] (r_X12_readSum b)) (r_X12_readPart : Nat → M Int32) (hr_X12_readPart : ∀ (b : Nat), Ct Γ mX12_readPart D vI [va_rf (some b)] (r_X12_readPart b)) (r_X12_readFactor : Nat → M Int32) (hr_X12_readFactor : ∀ (b : Nat), Ct Γ mX12_readFactor D vI [va_rf (some b)] (r_X12_readFactor b)) (this : Nat) : Ok Γ mX12_readFactor (D + 1) (qo Γ vI) 93 [(0, va_rf (some this))] [] (F_X12_readFactor_L93 r_X12_readExpr r_X12_readSum r_X12_readPart r_X12_readFactor this) := by
  unfold F_X12_readFactor_L93
  refine ok_iconst (v := (1 : Int32)) (dd TX12_readFactor_1 7 rfl) (by decide) ?_
  refine ok_goto (tgt := 98) (dd TX12_readFactor_1 8 rfl) (by decide) ?_
  exact O_X12_readFactor_L98 Γ D hB r_X12_readExpr hr_X12_readExpr r_X12_readSum hr_X12_readSum r_X12_readPart hr_X12_readPart r_X12_readFactor hr_X12_readFactor this (1 : Int32)
def F_X12_readFactor_L30 (r_X12_readExpr : Nat → M Int32) (r_X12_readSum : Nat → M Int32) (r_X12_readPart : Nat → M Int32) (r_X12_readFactor : Nat → M Int32) (this : Nat) : M Int32 := bn (pRc 12 (some this)) fun b8 => bn (F_X12_isSign b8 (45 : Int32)) fun v9 => if v9 = 0 then bn (gI 12 38 (some this)) fun v10 => if ¬ v10 = (2 : Int32) then F_X12_readFactor_L97 r_X12_readExpr r_X12_readSum r_X12_readPart r_X12_readFactor this else bn (gI 12 39 (some this)) fun v11 => if v11 = (8 : Int32) then F_X12_readFactor_L93 r_X12_readExpr r_X12_readSum r_X12_readPart r_X12_readFactor this else bn (gI 12 39 (some this)) fun v12 => if ¬ v12 = (9 : Int32) then F_X12_readFactor_L97 r_X12_readExpr r_X12_readSum r_X12_readPart r_X12_readFactor this else F_X12_readFactor_L93 r_X12_readExpr r_X12_readSum r_X12_readPart r_X12_readFactor this else bn (pRc 12 (some this)) fun b13 => bn (F_X12_opens b13) fun v14 => if v14 = 0 then rz (0 : Int32) else bn (pRc 12 (some this)) fun b15 => bn (r_X12_readFactor b15) fun v16 => if ¬ v16 = 0 then bn (gI 12 43 (some this)) fun v17 => bn (wI 12 43 (some this) (v17 - (1 : Int32))) fun _ => rz (1 : Int32) else rz (0 : Int32)
set_option maxRecDepth 100000 in
theorem O_X12_readFactor_L30 (Γ : Gam) (D : Nat) (hB : 7 ≤ D) (r_X12_readExpr : Nat → M Int32) (hr_X12_readExpr : ∀ (b : Nat), Ct Γ mX12_readExpr D vI [va_rf (some b)] (r_X12_readExpr b)) (r_X12_readSum : Nat → M Int32) (hr_X12_readSum : ∀ (b : Nat), Ct Γ mX12_readSum D vI [va_rf (some b)] (r_X12_readSum b)) (r_X12_readPart : Nat → M Int32) (hr_X12_readPart : ∀ (b : Nat), Ct Γ mX12_readPart D vI [va_rf (some b)] (r_X12_readPart b)) (r_X12_readFactor : Nat → M Int32) (hr_X12_readFactor : ∀ (b : Nat), Ct Γ mX12_readFactor D vI [va_rf (some b)] (r_X12_readFactor b)) (this : Nat) : Ok Γ mX12_readFactor (D + 1) (qo Γ vI) 30 [(0, va_rf (some this))] [] (F_X12_readFactor_L30 r_X12_readExpr r_X12_readSum r_X12_readPart r_X12_readFactor this) := by
  unfold F_X12_readFactor_L30
  refine ok_aload_n (dd TX12_readFactor_0 15 rfl) 0 rfl ?_
  refine ok_bipush (v := (45 : Int32)) (dd TX12_readFactor_0 16 rfl) (by decide) ?_
  refine ok_callVI (cn := 12) [.int (45 : Int32)] [] (fun b8 => C_X12_isSign Γ b8 (45 : Int32)) rfl cy_X12_isSign ml_RX12_174 im_X12_isSign se_X12_isSign (by omega) (Nat.le_of_ble_eq_true rfl) rfl (dd TX12_readFactor_0 17 rfl) (fun v9 => ?_)
  refine ok_if_eq (tgt := 67) (dd TX12_readFactor_0 18 rfl) (by decide) ?_ ?_
  · refine ok_aload_n (dd TX12_readFactor_0 35 rfl) 0 rfl ?_
    refine ok_gI fl_RX12_134 rfl (dd TX12_readFactor_0 36 rfl) (fun v10 => ?_)
    refine ok_iconst (v := (2 : Int32)) (dd TX12_readFactor_0 37 rfl) (by decide) ?_
    refine ok_icmp_ne (tgt := 97) (dd TX12_readFactor_0 38 rfl) (by decide) ?_ ?_
    · exact O_X12_readFactor_L97 Γ D hB r_X12_readExpr hr_X12_readExpr r_X12_readSum hr_X12_readSum r_X12_readPart hr_X12_readPart r_X12_readFactor hr_X12_readFactor this
    · refine ok_aload_n (dd TX12_readFactor_0 39 rfl) 0 rfl ?_
      refine ok_gI fl_RX12_144 rfl (dd TX12_readFactor_1 0 rfl) (fun v11 => ?_)
      refine ok_bipush (v := (8 : Int32)) (dd TX12_readFactor_1 1 rfl) (by decide) ?_
      refine ok_icmp_eq (tgt := 93) (dd TX12_readFactor_1 2 rfl) (by decide) ?_ ?_
      · exact O_X12_readFactor_L93 Γ D hB r_X12_readExpr hr_X12_readExpr r_X12_readSum hr_X12_readSum r_X12_readPart hr_X12_readPart r_X12_readFactor hr_X12_readFactor this
      · refine ok_aload_n (dd TX12_readFactor_1 3 rfl) 0 rfl ?_
        refine ok_gI fl_RX12_144 rfl (dd TX12_readFactor_1 4 rfl) (fun v12 => ?_)
        refine ok_bipush (v := (9 : Int32)) (dd TX12_readFactor_1 5 rfl) (by decide) ?_
        refine ok_icmp_ne (tgt := 97) (dd TX12_readFactor_1 6 rfl) (by decide) ?_ ?_
        · exact O_X12_readFactor_L97 Γ D hB r_X12_readExpr hr_X12_readExpr r_X12_readSum hr_X12_readSum r_X12_readPart hr_X12_readPart r_X12_readFactor hr_X12_readFactor this
        · exact O_X12_readFactor_L93 Γ D hB r_X12_readExpr hr_X12_readExpr r_X12_readSum hr_X12_readSum r_X12_readPart hr_X12_readPart r_X12_readFactor hr_X12_readFactor this
  · refine ok_aload_n (dd TX12_readFactor_0 19 rfl) 0 rfl ?_
    refine ok_callVI (cn := 12) [] [] (fun b13 => C_X12_opens Γ b13) rfl cy_X12_opens ml_RX12_187 im_X12_opens se_X12_opens (by omega) (Nat.le_of_ble_eq_true rfl) rfl (dd TX12_readFactor_0 20 rfl) (fun v14 => ?_)
    refine ok_if_eq (tgt := 53) (dd TX12_readFactor_0 21 rfl) (by decide) ?_ ?_
    · refine ok_iconst (v := (0 : Int32)) (dd TX12_readFactor_0 25 rfl) (by decide) ?_
      exact ok_zreturn (dd TX12_readFactor_0 26 rfl) rfl
    · refine ok_aload_n (dd TX12_readFactor_0 22 rfl) 0 rfl ?_
      refine ok_callVI (cn := 12) [] [] (fun b15 => hr_X12_readFactor b15) rfl cy_X12_readFactor ml_RX12_199 im_X12_readFactor se_X12_readFactor (Nat.le_refl _) (Nat.le_of_ble_eq_true rfl) rfl (dd TX12_readFactor_0 23 rfl) (fun v16 => ?_)
      refine ok_if_ne (tgt := 55) (dd TX12_readFactor_0 24 rfl) (by decide) ?_ ?_
      · refine ok_aload_n (dd TX12_readFactor_0 27 rfl) 0 rfl ?_
        refine ok_dup (dd TX12_readFactor_0 28 rfl) (by first | rfl | exact cat_rf _) ?_
        refine ok_gI fl_RX12_181 rfl (dd TX12_readFactor_0 29 rfl) (fun v17 => ?_)
        refine ok_iconst (v := (1 : Int32)) (dd TX12_readFactor_0 30 rfl) (by decide) ?_
        refine ok_isub (dd TX12_readFactor_0 31 rfl) ?_
        refine ok_wI fl_RX12_181 (Or.inl rfl) (tyX12_ok 43 (by decide)) (by decide) rfl (dd TX12_readFactor_0 32 rfl) ?_
        refine ok_iconst (v := (1 : Int32)) (dd TX12_readFactor_0 33 rfl) (by decide) ?_
        exact ok_zreturn (dd TX12_readFactor_0 34 rfl) rfl
      · refine ok_iconst (v := (0 : Int32)) (dd TX12_readFactor_0 25 rfl) (by decide) ?_
        exact ok_zreturn (dd TX12_readFactor_0 26 rfl) rfl
def F_X12_readFactor_B (r_X12_readExpr : Nat → M Int32) (r_X12_readSum : Nat → M Int32) (r_X12_readPart : Nat → M Int32) (r_X12_readFactor : Nat → M Int32) (this : Nat) : M Int32 := bn (gI 12 38 (some this)) fun v1 => if v1 = (1 : Int32) then bn (pRc 12 (some this)) fun b2 => bn (F_X12_take b2) fun v3 => rz v3 else bn (gI 12 38 (some this)) fun v4 => if ¬ v4 = (2 : Int32) then F_X12_readFactor_L30 r_X12_readExpr r_X12_readSum r_X12_readPart r_X12_readFactor this else bn (gI 12 39 (some this)) fun v5 => if v5 < (10 : Int32) then F_X12_readFactor_L30 r_X12_readExpr r_X12_readSum r_X12_readPart r_X12_readFactor this else bn (pRc 12 (some this)) fun b6 => bn (F_X12_take b6) fun v7 => rz v7
set_option maxRecDepth 100000 in
theorem C_X12_readFactor_B (Γ : Gam) (D : Nat) (hB : 7 ≤ D) (r_X12_readExpr : Nat → M Int32) (hr_X12_readExpr : ∀ (b : Nat), Ct Γ mX12_readExpr D vI [va_rf (some b)] (r_X12_readExpr b)) (r_X12_readSum : Nat → M Int32) (hr_X12_readSum : ∀ (b : Nat), Ct Γ mX12_readSum D vI [va_rf (some b)] (r_X12_readSum b)) (r_X12_readPart : Nat → M Int32) (hr_X12_readPart : ∀ (b : Nat), Ct Γ mX12_readPart D vI [va_rf (some b)] (r_X12_readPart b)) (r_X12_readFactor : Nat → M Int32) (hr_X12_readFactor : ∀ (b : Nat), Ct Γ mX12_readFactor D vI [va_rf (some b)] (r_X12_readFactor b)) (this : Nat) : Ct Γ mX12_readFactor (D + 1) vI [va_rf (some this)] (F_X12_readFactor_B r_X12_readExpr r_X12_readSum r_X12_readPart r_X12_readFactor this) := by
  refine ct_in (lv := [(0, va_rf (some this))]) (by decide) (by first | rfl | (simp only [lv_args, cat_rf]; rfl)) (by first | exact Nat.le_of_ble_eq_true rfl | (rw [lg_len]; simp only [List.map_cons, List.map_nil, cat_rf]; exact Nat.le_of_ble_eq_true rfl)) ?_
  unfold F_X12_readFactor_B
  refine ok_aload_n (dd TX12_readFactor_0 0 rfl) 0 rfl ?_
  refine ok_gI fl_RX12_134 rfl (dd TX12_readFactor_0 1 rfl) (fun v1 => ?_)
  refine ok_iconst (v := (1 : Int32)) (dd TX12_readFactor_0 2 rfl) (by decide) ?_
  refine ok_icmp_eq (tgt := 25) (dd TX12_readFactor_0 3 rfl) (by decide) ?_ ?_
  · refine ok_aload_n (dd TX12_readFactor_0 12 rfl) 0 rfl ?_
    refine ok_callVI (cn := 12) [] [] (fun b2 => C_X12_take Γ b2) rfl cy_X12_take ml_RX12_177 im_X12_take se_X12_take (by omega) (Nat.le_of_ble_eq_true rfl) rfl (dd TX12_readFactor_0 13 rfl) (fun v3 => ?_)
    exact ok_zreturn (dd TX12_readFactor_0 14 rfl) rfl
  · refine ok_aload_n (dd TX12_readFactor_0 4 rfl) 0 rfl ?_
    refine ok_gI fl_RX12_134 rfl (dd TX12_readFactor_0 5 rfl) (fun v4 => ?_)
    refine ok_iconst (v := (2 : Int32)) (dd TX12_readFactor_0 6 rfl) (by decide) ?_
    refine ok_icmp_ne (tgt := 30) (dd TX12_readFactor_0 7 rfl) (by decide) ?_ ?_
    · exact O_X12_readFactor_L30 Γ D hB r_X12_readExpr hr_X12_readExpr r_X12_readSum hr_X12_readSum r_X12_readPart hr_X12_readPart r_X12_readFactor hr_X12_readFactor this
    · refine ok_aload_n (dd TX12_readFactor_0 8 rfl) 0 rfl ?_
      refine ok_gI fl_RX12_144 rfl (dd TX12_readFactor_0 9 rfl) (fun v5 => ?_)
      refine ok_bipush (v := (10 : Int32)) (dd TX12_readFactor_0 10 rfl) (by decide) ?_
      refine ok_icmp_lt (tgt := 30) (dd TX12_readFactor_0 11 rfl) (by decide) ?_ ?_
      · exact O_X12_readFactor_L30 Γ D hB r_X12_readExpr hr_X12_readExpr r_X12_readSum hr_X12_readSum r_X12_readPart hr_X12_readPart r_X12_readFactor hr_X12_readFactor this
      · refine ok_aload_n (dd TX12_readFactor_0 12 rfl) 0 rfl ?_
        refine ok_callVI (cn := 12) [] [] (fun b6 => C_X12_take Γ b6) rfl cy_X12_take ml_RX12_177 im_X12_take se_X12_take (by omega) (Nat.le_of_ble_eq_true rfl) rfl (dd TX12_readFactor_0 13 rfl) (fun v7 => ?_)
        exact ok_zreturn (dd TX12_readFactor_0 14 rfl) rfl
def R_X12_readExpr : Nat → (Nat → M Int32) × (Nat → M Int32) × (Nat → M Int32) × (Nat → M Int32)
  | 0 => ((fun b => fl), (fun b => fl), (fun b => fl), (fun b => fl))
  | n + 1 => ((fun b => F_X12_readExpr_B (R_X12_readExpr n).1 (R_X12_readExpr n).2.1 (R_X12_readExpr n).2.2.1 (R_X12_readExpr n).2.2.2 b), (fun b => F_X12_readSum_B (R_X12_readExpr n).1 (R_X12_readExpr n).2.1 (R_X12_readExpr n).2.2.1 (R_X12_readExpr n).2.2.2 b), (fun b => F_X12_readPart_B (R_X12_readExpr n).1 (R_X12_readExpr n).2.1 (R_X12_readExpr n).2.2.1 (R_X12_readExpr n).2.2.2 b), (fun b => F_X12_readFactor_B (R_X12_readExpr n).1 (R_X12_readExpr n).2.1 (R_X12_readExpr n).2.2.1 (R_X12_readExpr n).2.2.2 b))
theorem CR_X12_readExpr (Γ : Gam) : ∀ n : Nat, (∀ (b : Nat), Ct Γ mX12_readExpr (n + 7) vI [va_rf (some b)] ((R_X12_readExpr n).1 b)) ∧ (∀ (b : Nat), Ct Γ mX12_readSum (n + 7) vI [va_rf (some b)] ((R_X12_readExpr n).2.1 b)) ∧ (∀ (b : Nat), Ct Γ mX12_readPart (n + 7) vI [va_rf (some b)] ((R_X12_readExpr n).2.2.1 b)) ∧ (∀ (b : Nat), Ct Γ mX12_readFactor (n + 7) vI [va_rf (some b)] ((R_X12_readExpr n).2.2.2 b)) := by
  intro n
  induction n with
  | zero => exact ⟨fun _ => ct_fl, fun _ => ct_fl, fun _ => ct_fl, fun _ => ct_fl⟩
  | succ n ih =>
    obtain ⟨h0, h1, h2, h3⟩ := ih
    have e : n + 1 + 7 = n + 7 + 1 := by omega
    rw [e]
    exact ⟨fun b => C_X12_readExpr_B Γ (n + 7) (by omega) _ h0 _ h1 _ h2 _ h3 b, fun b => C_X12_readSum_B Γ (n + 7) (by omega) _ h0 _ h1 _ h2 _ h3 b, fun b => C_X12_readPart_B Γ (n + 7) (by omega) _ h0 _ h1 _ h2 _ h3 b, fun b => C_X12_readFactor_B Γ (n + 7) (by omega) _ h0 _ h1 _ h2 _ h3 b⟩
def F_X12_readExpr (b : Nat) : M Int32 := (R_X12_readExpr 100).1 b
theorem C_X12_readExpr (Γ : Gam) (b : Nat) : Ct Γ mX12_readExpr 107 vI [va_rf (some b)] (F_X12_readExpr b) := (CR_X12_readExpr Γ 100).1 b
def F_X12_readSum (b : Nat) : M Int32 := (R_X12_readExpr 100).2.1 b
theorem C_X12_readSum (Γ : Gam) (b : Nat) : Ct Γ mX12_readSum 107 vI [va_rf (some b)] (F_X12_readSum b) := (CR_X12_readExpr Γ 100).2.1 b
def F_X12_readPart (b : Nat) : M Int32 := (R_X12_readExpr 100).2.2.1 b
theorem C_X12_readPart (Γ : Gam) (b : Nat) : Ct Γ mX12_readPart 107 vI [va_rf (some b)] (F_X12_readPart b) := (CR_X12_readExpr Γ 100).2.2.1 b
def F_X12_readFactor (b : Nat) : M Int32 := (R_X12_readExpr 100).2.2.2 b
theorem C_X12_readFactor (Γ : Gam) (b : Nat) : Ct Γ mX12_readFactor 107 vI [va_rf (some b)] (F_X12_readFactor b) := (CR_X12_readExpr Γ 100).2.2.2 b
