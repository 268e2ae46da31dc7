theorem ok_callS8 {α : Type} {Γ : Gam} {y : Mth} {d : Nat} {rv : Rv α} {pc : Nat} {lv : List (Nat × Value)} {st : List Value} {β : Type} {F : β → M α} {G : M β} {yc : Mth} {dc : Nat} {rvc : β → Option Value} {idx : Nat} (As rest : List Value) (hC : Ct Γ yc dc rvc As G) (hy : CY yc As.length)
    (w1 : Cond.methodLink y.1.cls idx yc.1 ∈ lw_g) (w2 : Cond.static yc.1 ∈ lw_g) (hdep : dc + 1 ≤ d) (hrest : (rest.map fun v => v.category).sum ≤ 8) (hst : st = As.reverse ++ rest) (hd : decode y.2.1 pc = .ok (.invokestatic idx, 3)) (kk : ∀ x : β, Ok Γ y d rv (pc + 3) lv ((rvc x).toList ++ rest) (F x)) : Ok Γ y d rv pc lv st (bn G F) := by
  subst hst
  intro μ w μ' h
  obtain ⟨x, μ1, h3, h4⟩ := bn_some h
  have hk := kk x μ1 w μ' h4
  have hg := hC μ x μ1 h3
  refine ⟨⟨Nat.le_trans hg.1.1 hk.1.1, Nat.le_trans hg.1.2 hk.1.2⟩, ?_⟩
  intro p e s m args below meth c x0 s0 H locs ls hc g1 g2 hS hD hl
  have hM := hg.2 hc.2.2.2.2.2.2.2.2.2.1
  have hsum := cat_sum rest
  refine w_back (a := As.toArray) (va_runS (As := As) (rest := rest) ⟨hc.1, hc.2.1, hc.2.2.2.1, hc.2.2.2.2.1, hc.2.2.2.2.2.1⟩ hM ⟨cy_callB hc hy w1 hdep, hc.2.2.2.2.2.1 _ w2⟩ ⟨pc_blind hc.2.2.2.2.2.2.2.2.2.1 _ _, fun U hU hW => pc_at hc hS hD hU hW⟩ rfl rfl hl.1 rfl (by show 2 * 0 + _ ≤ 8; omega) hd ⟨by show _ ≤ mX μ' - x0; omega, by show _ ≤ mS μ' - s0; omega⟩) hS g1 g2 hg.1 ?_
  intro H' locs' hS' hD'
  exact hk.2 p e s m args below meth c x0 s0 H' locs' ls hc (by omega) (by omega) hS' hD' hl
theorem ok_callSR8 {α : Type} {Γ : Gam} {y : Mth} {d : Nat} {rv : Rv α} {pc : Nat} {lv : List (Nat × Value)} {st : List Value} {F : Option Nat → M α} {G : M (Option Nat)} {yc : Mth} {dc : Nat} {idx : Nat} (As rest : List Value) (hC : Ct Γ yc dc vP As G) (hy : CY yc As.length)
    (w1 : Cond.methodLink y.1.cls idx yc.1 ∈ lw_g) (w2 : Cond.static yc.1 ∈ lw_g) (hdep : dc + 1 ≤ d) (hrest : (rest.map fun v => v.category).sum ≤ 8) (hst : st = As.reverse ++ rest) (hd : decode y.2.1 pc = .ok (.invokestatic idx, 3)) (kk : ∀ x : Option Nat, Ok Γ y d rv (pc + 3) lv (va_rf x :: rest) (F x)) : Ok Γ y d rv pc lv st (bn G F) :=
  ok_callS8 As rest hC hy w1 w2 hdep hrest hst hd kk
def F_X4_readRule_L77 (this : Nat) (x1 : Option Nat) (x2 : Int32) (x3 : Int32) (y0 : Int32) (y1 : Option Nat) : M Unit := bn (pRc 4 y1) fun b10 => bn (F_X4_refuseIf b10 y0 (2 : Int32)) fun _ => bn (pRc 4 (some this)) fun b11 => bn (F_X4_advance b11) fun _ => bn (pRc 4 (some this)) fun b12 => bn (F_X4_readOnly b12 (13 : Int32)) fun _ => bn (wI 4 8 (some this) (0 : Int32)) fun _ => bn (wI 4 10 (some this) (0 : Int32)) fun _ => bn (pRc 4 (some this)) fun b13 => bn (F_X4_readExpr b13 (0 : Int32)) fun _ => bn (pRc 4 (some this)) fun b14 => bn (F_X4_readOnly b14 (59 : Int32)) fun _ => bn (gI 4 6 (some this)) fun v15 => if v15 = (18 : Int32) then rt () else bn (newO 6 3) fun r16 => bn (gP 4 9 (some this)) fun v17 => bn (gI 4 10 (some this)) fun v18 => bn (F_J7_copyOf_59c91 v17 v18) fun v19 => bn (pRc 6 r16) fun b20 => bn (F_X6_init b20 x2 x3 v19) fun _ => bn (pRc 13 x1) fun b21 => bn (F_Jx4a65c_add_9ea2d b21 r16) fun v22 => rt ()
set_option maxRecDepth 100000 in
theorem O_X4_readRule_L77 (Γ : Gam) (this : Nat) (x1 : Option Nat) (x2 : Int32) (x3 : Int32) (y0 : Int32) (y1 : Option Nat) : Ok Γ mX4_readRule 107 (qo Γ vV) 77 [(0, va_rf (some this)), (1, va_rf x1), (2, .int x2), (3, .int x3)] [.int y0, va_rf y1] (F_X4_readRule_L77 this x1 x2 x3 y0 y1) := by
  unfold F_X4_readRule_L77
  refine ok_iconst (v := (2 : Int32)) (dd TX4_readRule_1 1 rfl) (by decide) ?_
  refine ok_callVV (cn := 4) [.int y0, .int (2 : Int32)] [] (fun b10 => C_X4_refuseIf Γ b10 y0 (2 : Int32)) rfl cy_X4_refuseIf ml_RX4_52 im_X4_refuseIf se_X4_refuseIf (by decide) (Nat.le_of_ble_eq_true rfl) rfl (dd TX4_readRule_1 2 rfl) ?_
  refine ok_aload_n (dd TX4_readRule_1 3 rfl) 0 rfl ?_
  refine ok_callVV (cn := 4) [] [] (fun b11 => C_X4_advance Γ b11) rfl cy_X4_advance ml_RX4_41 im_X4_advance se_X4_advance (by decide) (Nat.le_of_ble_eq_true rfl) rfl (dd TX4_readRule_1 4 rfl) ?_
  refine ok_aload_n (dd TX4_readRule_1 5 rfl) 0 rfl ?_
  refine ok_bipush (v := (13 : Int32)) (dd TX4_readRule_1 6 rfl) (by decide) ?_
  refine ok_callVV (cn := 4) [.int (13 : Int32)] [] (fun b12 => C_X4_readOnly Γ b12 (13 : Int32)) rfl cy_X4_readOnly ml_RX4_56 im_X4_readOnly se_X4_readOnly (by decide) (Nat.le_of_ble_eq_true rfl) rfl (dd TX4_readRule_1 7 rfl) ?_
  refine ok_aload_n (dd TX4_readRule_1 8 rfl) 0 rfl ?_
  refine ok_iconst (v := (0 : Int32)) (dd TX4_readRule_1 9 rfl) (by decide) ?_
  refine ok_wI fl_RX4_63 (Or.inl rfl) (tyX4_ok 8 (by decide)) (by decide) rfl (dd TX4_readRule_1 10 rfl) ?_
  refine ok_aload_n (dd TX4_readRule_1 11 rfl) 0 rfl ?_
  refine ok_iconst (v := (0 : Int32)) (dd TX4_readRule_1 12 rfl) (by decide) ?_
  refine ok_wI fl_RX4_66 (Or.inl rfl) (tyX4_ok 10 (by decide)) (by decide) rfl (dd TX4_readRule_1 13 rfl) ?_
  refine ok_aload_n (dd TX4_readRule_1 14 rfl) 0 rfl ?_
  refine ok_iconst (v := (0 : Int32)) (dd TX4_readRule_1 15 rfl) (by decide) ?_
  refine ok_callVV (cn := 4) [.int (0 : Int32)] [] (fun b13 => C_X4_readExpr Γ b13 (0 : Int32)) rfl cy_X4_readExpr ml_RX4_69 im_X4_readExpr se_X4_readExpr (by decide) (Nat.le_of_ble_eq_true rfl) rfl (dd TX4_readRule_1 16 rfl) ?_
  refine ok_aload_n (dd TX4_readRule_1 17 rfl) 0 rfl ?_
  refine ok_bipush (v := (59 : Int32)) (dd TX4_readRule_1 18 rfl) (by decide) ?_
  refine ok_callVV (cn := 4) [.int (59 : Int32)] [] (fun b14 => C_X4_readOnly Γ b14 (59 : Int32)) rfl cy_X4_readOnly ml_RX4_56 im_X4_readOnly se_X4_readOnly (by decide) (Nat.le_of_ble_eq_true rfl) rfl (dd TX4_readRule_1 19 rfl) ?_
  refine ok_aload_n (dd TX4_readRule_1 20 rfl) 0 rfl ?_
  refine ok_gI fl_RX4_38 rfl (dd TX4_readRule_1 21 rfl) (fun v15 => ?_)
  refine ok_bipush (v := (18 : Int32)) (dd TX4_readRule_1 22 rfl) (by decide) ?_
  refine ok_icmp_eq (tgt := 146) (dd TX4_readRule_1 23 rfl) (by decide) ?_ ?_
  · exact ok_return (dd TX4_readRule_1 37 rfl) rfl
  · refine ok_aload_n (dd TX4_readRule_1 24 rfl) 1 rfl ?_
    refine ok_newO cf_6 tyX6 tyX6_ok df_6 cl_RX4_72 ib_6 in_6 (dd TX4_readRule_1 25 rfl) (fun r16 => ?_)
    refine ok_dup (dd TX4_readRule_1 26 rfl) (by first | rfl | exact cat_rf _) ?_
    refine ok_iload_n (dd TX4_readRule_1 27 rfl) 2 rfl ?_
    refine ok_iload_n (dd TX4_readRule_1 28 rfl) 3 rfl ?_
    refine ok_aload_n (dd TX4_readRule_1 29 rfl) 0 rfl ?_
    refine ok_gP fl_RX4_15 rfl (dd TX4_readRule_1 30 rfl) (fun v17 => ?_)
    refine ok_aload_n (dd TX4_readRule_1 31 rfl) 0 rfl ?_
    refine ok_gI fl_RX4_66 rfl (dd TX4_readRule_1 32 rfl) (fun v18 => ?_)
    refine ok_callSR8 [va_rf v17, .int v18] [.int x3, .int x2, va_rf r16, va_rf r16, va_rf x1] (C_J7_copyOf_59c91 Γ v17 v18) cy_J7_copyOf_59c91 ml_RX4_74 sm_J7_copyOf_59c91 (by decide) (by simp only [List.map_cons, List.map_nil, cat_rf]; exact Nat.le_of_ble_eq_true rfl) rfl (dd TX4_readRule_1 33 rfl) (fun v19 => ?_)
    refine ok_callI (cn := 6) [.int x2, .int x3, va_rf v19] [va_rf r16, va_rf x1] (fun b20 => C_X6_init Γ b20 x2 x3 v19) cy_X6_init rfl rfl ml_RX4_80 im_X6_init (by decide) (Nat.le_of_ble_eq_true rfl) rfl (dd TX4_readRule_1 34 rfl) ?_
    refine ok_callVI (cn := 13) [va_rf r16] [] (fun b21 => C_Jx4a65c_add_9ea2d Γ b21 r16) rfl cy_Jx4a65c_add_9ea2d ml_RX4_83 im_Jx4a65c_add_9ea2d se_Jx4a65c_add_9ea2d (by decide) (Nat.le_of_ble_eq_true rfl) rfl (dd TX4_readRule_1 35 rfl) (fun v22 => ?_)
    refine ok_pop (dd TX4_readRule_1 36 rfl) (by first | rfl | exact cat_rf _) ?_
    exact ok_return (dd TX4_readRule_1 37 rfl) rfl
def F_X4_readRule_L72 (this : Nat) (x1 : Option Nat) (x2 : Int32) (x3 : Int32) (y0 : Option Nat) : M Unit := F_X4_readRule_L77 this x1 x2 x3 (1 : Int32) y0
set_option maxRecDepth 100000 in
theorem O_X4_readRule_L72 (Γ : Gam) (this : Nat) (x1 : Option Nat) (x2 : Int32) (x3 : Int32) (y0 : Option Nat) : Ok Γ mX4_readRule 107 (qo Γ vV) 72 [(0, va_rf (some this)), (1, va_rf x1), (2, .int x2), (3, .int x3)] [va_rf y0] (F_X4_readRule_L72 this x1 x2 x3 y0) := by
  unfold F_X4_readRule_L72
  refine ok_iconst (v := (1 : Int32)) (dd TX4_readRule_0 38 rfl) (by decide) ?_
  refine ok_goto (tgt := 77) (dd TX4_readRule_0 39 rfl) (by decide) ?_
  exact O_X4_readRule_L77 Γ this x1 x2 x3 (1 : Int32) y0
def F_X4_readRule_L36 (this : Nat) (x1 : Option Nat) (x2 : Int32) (y0 : Int32) (y1 : Option Nat) : M Unit := bn (pRc 4 y1) fun b5 => bn (F_X4_refuseIf b5 y0 (4 : Int32)) fun _ => bn (pRc 4 (some this)) fun b6 => bn (F_X4_advance b6) fun _ => bn (pRc 4 (some this)) fun b7 => bn (F_X4_readOnly b7 (12 : Int32)) fun _ => bn (gI 4 7 (some this)) fun v8 => bn (gI 4 6 (some this)) fun v9 => if ¬ v9 = (16 : Int32) then F_X4_readRule_L72 this x1 x2 v8 (some this) else if v8 ≤ (150 : Int32) then F_X4_readRule_L77 this x1 x2 v8 (0 : Int32) (some this) else F_X4_readRule_L72 this x1 x2 v8 (some this)
set_option maxRecDepth 100000 in
theorem O_X4_readRule_L36 (Γ : Gam) (this : Nat) (x1 : Option Nat) (x2 : Int32) (y0 : Int32) (y1 : Option Nat) : Ok Γ mX4_readRule 107 (qo Γ vV) 36 [(0, va_rf (some this)), (1, va_rf x1), (2, .int x2)] [.int y0, va_rf y1] (F_X4_readRule_L36 this x1 x2 y0 y1) := by
  unfold F_X4_readRule_L36
  refine ok_iconst (v := (4 : Int32)) (dd TX4_readRule_0 20 rfl) (by decide) ?_
  refine ok_callVV (cn := 4) [.int y0, .int (4 : Int32)] [] (fun b5 => C_X4_refuseIf Γ b5 y0 (4 : Int32)) rfl cy_X4_refuseIf ml_RX4_52 im_X4_refuseIf se_X4_refuseIf (by decide) (Nat.le_of_ble_eq_true rfl) rfl (dd TX4_readRule_0 21 rfl) ?_
  refine ok_aload_n (dd TX4_readRule_0 22 rfl) 0 rfl ?_
  refine ok_callVV (cn := 4) [] [] (fun b6 => C_X4_advance Γ b6) rfl cy_X4_advance ml_RX4_41 im_X4_advance se_X4_advance (by decide) (Nat.le_of_ble_eq_true rfl) rfl (dd TX4_readRule_0 23 rfl) ?_
  refine ok_aload_n (dd TX4_readRule_0 24 rfl) 0 rfl ?_
  refine ok_bipush (v := (12 : Int32)) (dd TX4_readRule_0 25 rfl) (by decide) ?_
  refine ok_callVV (cn := 4) [.int (12 : Int32)] [] (fun b7 => C_X4_readOnly Γ b7 (12 : Int32)) rfl cy_X4_readOnly ml_RX4_56 im_X4_readOnly se_X4_readOnly (by decide) (Nat.le_of_ble_eq_true rfl) rfl (dd TX4_readRule_0 26 rfl) ?_
  refine ok_aload_n (dd TX4_readRule_0 27 rfl) 0 rfl ?_
  refine ok_gI fl_RX4_60 rfl (dd TX4_readRule_0 28 rfl) (fun v8 => ?_)
  refine ok_istore_n (lv' := [(3, .int v8), (0, va_rf (some this)), (1, va_rf x1), (2, .int x2)]) (dd TX4_readRule_0 29 rfl) (by decide) (by first | rfl | (simp only [List.filter, cat_rf]; rfl)) ?_
  refine ok_aload_n (dd TX4_readRule_0 30 rfl) 1 rfl ?_
  refine ok_aload_n (dd TX4_readRule_0 31 rfl) 1 rfl ?_
  refine ok_gI fl_RX4_38 rfl (dd TX4_readRule_0 32 rfl) (fun v9 => ?_)
  refine ok_bipush (v := (16 : Int32)) (dd TX4_readRule_0 33 rfl) (by decide) ?_
  refine ok_icmp_ne (tgt := 72) (dd TX4_readRule_0 34 rfl) (by decide) ?_ ?_
  · refine ok_sub [1, 2, 3, 0] rfl ?_
    exact O_X4_readRule_L72 Γ this x1 x2 v8 (some this)
  · refine ok_iload_n (dd TX4_readRule_0 35 rfl) 0 rfl ?_
    refine ok_sipush (v := (150 : Int32)) (dd TX4_readRule_0 36 rfl) (by decide) ?_
    refine ok_icmp_le (tgt := 76) (dd TX4_readRule_0 37 rfl) (by decide) ?_ ?_
    · refine ok_iconst (v := (0 : Int32)) (dd TX4_readRule_1 0 rfl) (by decide) ?_
      refine ok_sub [1, 2, 3, 0] rfl ?_
      exact O_X4_readRule_L77 Γ this x1 x2 v8 (0 : Int32) (some this)
    · refine ok_sub [1, 2, 3, 0] rfl ?_
      exact O_X4_readRule_L72 Γ this x1 x2 v8 (some this)
def F_X4_readRule_L17 (this : Nat) (x1 : Option Nat) (x2 : Int32) (y0 : Int32) (y1 : Option Nat) : M Unit := bn (pRc 4 y1) fun b2 => bn (F_X4_refuseIf b2 y0 (2 : Int32)) fun _ => bn (pRc 13 x1) fun b3 => bn (F_Jx4a65c_size_8abf5 b3) fun v4 => if v4 < (30 : Int32) then F_X4_readRule_L36 this x1 x2 (0 : Int32) (some this) else F_X4_readRule_L36 this x1 x2 (1 : Int32) (some this)
set_option maxRecDepth 100000 in
theorem O_X4_readRule_L17 (Γ : Gam) (this : Nat) (x1 : Option Nat) (x2 : Int32) (y0 : Int32) (y1 : Option Nat) : Ok Γ mX4_readRule 107 (qo Γ vV) 17 [(0, va_rf (some this)), (1, va_rf x1), (2, .int x2)] [.int y0, va_rf y1] (F_X4_readRule_L17 this x1 x2 y0 y1) := by
  unfold F_X4_readRule_L17
  refine ok_iconst (v := (2 : Int32)) (dd TX4_readRule_0 10 rfl) (by decide) ?_
  refine ok_callVV (cn := 4) [.int y0, .int (2 : Int32)] [] (fun b2 => C_X4_refuseIf Γ b2 y0 (2 : Int32)) rfl cy_X4_refuseIf ml_RX4_52 im_X4_refuseIf se_X4_refuseIf (by decide) (Nat.le_of_ble_eq_true rfl) rfl (dd TX4_readRule_0 11 rfl) ?_
  refine ok_aload_n (dd TX4_readRule_0 12 rfl) 0 rfl ?_
  refine ok_aload_n (dd TX4_readRule_0 13 rfl) 1 rfl ?_
  refine ok_callVI (cn := 13) [] [va_rf (some this)] (fun b3 => C_Jx4a65c_size_8abf5 Γ b3) rfl cy_Jx4a65c_size_8abf5 ml_RX4_23 im_Jx4a65c_size_8abf5 se_Jx4a65c_size_8abf5 (by decide) (Nat.le_of_ble_eq_true rfl) rfl (dd TX4_readRule_0 14 rfl) (fun v4 => ?_)
  refine ok_bipush (v := (30 : Int32)) (dd TX4_readRule_0 15 rfl) (by decide) ?_
  refine ok_icmp_lt (tgt := 35) (dd TX4_readRule_0 16 rfl) (by decide) ?_ ?_
  · refine ok_iconst (v := (0 : Int32)) (dd TX4_readRule_0 19 rfl) (by decide) ?_
    exact O_X4_readRule_L36 Γ this x1 x2 (0 : Int32) (some this)
  · refine ok_iconst (v := (1 : Int32)) (dd TX4_readRule_0 17 rfl) (by decide) ?_
    refine ok_goto (tgt := 36) (dd TX4_readRule_0 18 rfl) (by decide) ?_
    exact O_X4_readRule_L36 Γ this x1 x2 (1 : Int32) (some this)
def F_X4_readRule (this : Nat) (p0 : Option Nat) : M Unit := bn (gI 4 6 (some this)) fun v1 => if v1 < (6 : Int32) then F_X4_readRule_L17 this p0 v1 (0 : Int32) (some this) else F_X4_readRule_L17 this p0 v1 (1 : Int32) (some this)
set_option maxRecDepth 100000 in
theorem C_X4_readRule (Γ : Gam) (this : Nat) (p0 : Option Nat) : Ct Γ mX4_readRule 107 vV [va_rf (some this), va_rf p0] (F_X4_readRule this p0) := by
  refine ct_in (lv := [(0, va_rf (some this)), (1, va_rf p0)]) (by decide) (by first | rfl | (simp only [lv_args, cat_rf]; rfl)) (by first | exact Nat.le_of_ble_eq_true rfl | (rw [lg_len]; simp only [List.map_cons, List.map_nil, cat_rf]; exact Nat.le_of_ble_eq_true rfl)) ?_
  unfold F_X4_readRule
  refine ok_aload_n (dd TX4_readRule_0 0 rfl) 0 rfl ?_
  refine ok_gI fl_RX4_38 rfl (dd TX4_readRule_0 1 rfl) (fun v1 => ?_)
  refine ok_istore_n (lv' := [(2, .int v1), (0, va_rf (some this)), (1, va_rf p0)]) (dd TX4_readRule_0 2 rfl) (by decide) (by first | rfl | (simp only [List.filter, cat_rf]; rfl)) ?_
  refine ok_aload_n (dd TX4_readRule_0 3 rfl) 1 rfl ?_
  refine ok_iload_n (dd TX4_readRule_0 4 rfl) 0 rfl ?_
  refine ok_bipush (v := (6 : Int32)) (dd TX4_readRule_0 5 rfl) (by decide) ?_
  refine ok_icmp_lt (tgt := 16) (dd TX4_readRule_0 6 rfl) (by decide) ?_ ?_
  · refine ok_iconst (v := (0 : Int32)) (dd TX4_readRule_0 9 rfl) (by decide) ?_
    refine ok_sub [1, 2, 0] rfl ?_
    exact O_X4_readRule_L17 Γ this p0 v1 (0 : Int32) (some this)
  · refine ok_iconst (v := (1 : Int32)) (dd TX4_readRule_0 7 rfl) (by decide) ?_
    refine ok_goto (tgt := 17) (dd TX4_readRule_0 8 rfl) (by decide) ?_
    refine ok_sub [1, 2, 0] rfl ?_
    exact O_X4_readRule_L17 Γ this p0 v1 (1 : Int32) (some this)
def F_X11_night_L133 (k96 : Nat → Option Nat → Int32 → Int32 → M Int32) (this : Nat) (x1 : Option Nat) (x2 : Int32) (x3 : Int32) : M Int32 := k96 this x1 x2 (x3 + (1 : Int32))
set_option maxRecDepth 100000 in
theorem O_X11_night_L133 (Γ : Gam) (k96 : Nat → Option Nat → Int32 → Int32 → M Int32) (hk96 : ∀ (z0 : Nat) (z1 : Option Nat) (z2 : Int32) (z3 : Int32), Ok Γ mX11_night 9 (qo Γ vI) 96 [(0, va_rf (some z0)), (1, va_rf z1), (2, .int z2), (3, .int z3)] [] (k96 z0 z1 z2 z3)) (this : Nat) (x1 : Option Nat) (x2 : Int32) (x3 : Int32) : Ok Γ mX11_night 9 (qo Γ vI) 133 [(0, va_rf (some this)), (1, va_rf x1), (2, .int x2), (3, .int x3)] [] (F_X11_night_L133 k96 this x1 x2 x3) := by
  unfold F_X11_night_L133
  refine ok_iinc (lv' := [(3, .int (x3 + (1 : Int32))), (0, va_rf (some this)), (1, va_rf x1), (2, .int x2)]) (dd TX11_night_1 30 rfl) 3 rfl (congrArg (fun q : Int32 => x3 + q) (show Int32.ofInt (1) = (1 : Int32) from by decide)) (by decide) (by first | rfl | (simp only [List.filter, cat_rf]; rfl)) ?_
  refine ok_goto (tgt := 96) (dd TX11_night_1 31 rfl) (by decide) ?_
  refine ok_sub [1, 2, 3, 0] rfl ?_
  exact hk96 this x1 x2 (x3 + (1 : Int32))
def F_X11_night_L96 : Nat → Nat → Option Nat → Int32 → Int32 → M Int32
  | 0 => fun _ _ _ _ => fl
  | n + 1 => fun this x1 x2 x3 => bn (gP 11 3 (some this)) fun v19 => bn (pRc 13 v19) fun b20 => bn (F_Jx4a65c_size_8abf5 b20) fun v21 => if v21 ≤ x3 then bn (pRc 11 (some this)) fun b22 => bn (F_X11_rememberMembers b22 x1) fun _ => bn (gI 11 8 (some this)) fun v23 => bn (wI 11 8 (some this) (v23 + (1 : Int32))) fun _ => rt x2 else bn (gP 11 3 (some this)) fun v24 => bn (pRc 13 v24) fun b25 => bn (F_Jx4a65c_get_915e3 b25 x3) fun v26 => bn (cst 1 v26) fun _ => bn (pRc 11 (some this)) fun b27 => bn (F_X11_fallsTonight b27 v26) fun v28 => if v28 = 0 then F_X11_night_L133 (F_X11_night_L96 n) this x1 x2 x3 else bn (pRc 11 (some this)) fun b29 => bn (F_X11_closeOut b29 x3) fun _ => F_X11_night_L133 (F_X11_night_L96 n) this x1 (x2 + (1 : Int32)) x3
set_option maxRecDepth 100000 in
theorem O_X11_night_L96 (Γ : Gam) (n : Nat) : ∀ (this : Nat) (x1 : Option Nat) (x2 : Int32) (x3 : Int32), Ok Γ mX11_night 9 (qo Γ vI) 96 [(0, va_rf (some this)), (1, va_rf x1), (2, .int x2), (3, .int x3)] [] (F_X11_night_L96 n this x1 x2 x3) := by
  induction n with
  | zero => intro this x1 x2 x3; exact ok_fl
  | succ n ih =>
    intro this x1 x2 x3
    rw [F_X11_night_L96]
    refine ok_iload_n (dd TX11_night_1 13 rfl) 3 rfl ?_
    refine ok_aload_n (dd TX11_night_1 14 rfl) 0 rfl ?_
    refine ok_gP fl_RX11_33 rfl (dd TX11_night_1 15 rfl) (fun v19 => ?_)
    refine ok_callVI (cn := 13) [] [.int x3] (fun b20 => C_Jx4a65c_size_8abf5 Γ b20) rfl cy_Jx4a65c_size_8abf5 ml_RX11_85 im_Jx4a65c_size_8abf5 se_Jx4a65c_size_8abf5 (by decide) (Nat.le_of_ble_eq_true rfl) rfl (dd TX11_night_1 16 rfl) (fun v21 => ?_)
    refine ok_icmp_ge (tgt := 139) (dd TX11_night_1 17 rfl) (by decide) ?_ ?_
    · refine ok_aload_n (dd TX11_night_1 32 rfl) 0 rfl ?_
      refine ok_aload_n (dd TX11_night_1 33 rfl) 1 rfl ?_
      refine ok_callVV (cn := 11) [va_rf x1] [] (fun b22 => C_X11_rememberMembers Γ b22 x1) rfl cy_X11_rememberMembers ml_RX11_215 im_X11_rememberMembers se_X11_rememberMembers (by decide) (Nat.le_of_ble_eq_true rfl) rfl (dd TX11_night_1 34 rfl) ?_
      refine ok_aload_n (dd TX11_night_1 35 rfl) 0 rfl ?_
      refine ok_dup (dd TX11_night_1 36 rfl) (by first | rfl | exact cat_rf _) ?_
      refine ok_gI fl_RX11_186 rfl (dd TX11_night_1 37 rfl) (fun v23 => ?_)
      refine ok_iconst (v := (1 : Int32)) (dd TX11_night_1 38 rfl) (by decide) ?_
      refine ok_iadd (dd TX11_night_1 39 rfl) ?_
      refine ok_wI fl_RX11_186 (Or.inl rfl) (tyX11_ok 8 (by decide)) (by decide) rfl (dd TX11_night_2 0 rfl) ?_
      refine ok_iload_n (dd TX11_night_2 1 rfl) 2 rfl ?_
      exact ok_ireturn (dd TX11_night_2 2 rfl) rfl
    · refine ok_aload_n (dd TX11_night_1 18 rfl) 0 rfl ?_
      refine ok_aload_n (dd TX11_night_1 19 rfl) 0 rfl ?_
      refine ok_gP fl_RX11_33 rfl (dd TX11_night_1 20 rfl) (fun v24 => ?_)
      refine ok_iload_n (dd TX11_night_1 21 rfl) 3 rfl ?_
      refine ok_callVR (cn := 13) [.int x3] [va_rf (some this)] (fun b25 => C_Jx4a65c_get_915e3 Γ b25 x3) rfl cy_Jx4a65c_get_915e3 ml_RX11_139 im_Jx4a65c_get_915e3 se_Jx4a65c_get_915e3 (by decide) (Nat.le_of_ble_eq_true rfl) rfl (dd TX11_night_1 22 rfl) (fun v26 => ?_)
      refine ok_cst (cn := 1) rfl cl_RX11_89 (dd TX11_night_1 23 rfl) ?_
      refine ok_callVI (cn := 11) [va_rf v26] [] (fun b27 => C_X11_fallsTonight Γ b27 v26) rfl cy_X11_fallsTonight ml_RX11_208 im_X11_fallsTonight se_X11_fallsTonight (by decide) (Nat.le_of_ble_eq_true rfl) rfl (dd TX11_night_1 24 rfl) (fun v28 => ?_)
      refine ok_if_eq (tgt := 133) (dd TX11_night_1 25 rfl) (by decide) ?_ ?_
      · exact O_X11_night_L133 Γ (F_X11_night_L96 n) ih this x1 x2 x3
      · refine ok_aload_n (dd TX11_night_1 26 rfl) 0 rfl ?_
        refine ok_iload_n (dd TX11_night_1 27 rfl) 3 rfl ?_
        refine ok_callVV (cn := 11) [.int x3] [] (fun b29 => C_X11_closeOut Γ b29 x3) rfl cy_X11_closeOut ml_RX11_212 im_X11_closeOut se_X11_closeOut (by decide) (Nat.le_of_ble_eq_true rfl) rfl (dd TX11_night_1 28 rfl) ?_
        refine ok_iinc (lv' := [(2, .int (x2 + (1 : Int32))), (0, va_rf (some this)), (1, va_rf x1), (3, .int x3)]) (dd TX11_night_1 29 rfl) 2 rfl (congrArg (fun q : Int32 => x2 + q) (show Int32.ofInt (1) = (1 : Int32) from by decide)) (by decide) (by first | rfl | (simp only [List.filter, cat_rf]; rfl)) ?_
        refine ok_sub [1, 2, 0, 3] rfl ?_
        exact O_X11_night_L133 Γ (F_X11_night_L96 n) ih this x1 (x2 + (1 : Int32)) x3
def F_X11_night_L76 (k29 : Nat → Option Nat → Int32 → M Int32) (this : Nat) (x1 : Option Nat) (x2 : Int32) (y0 : Option Nat) (y1 : Int32) (y2 : Option Nat) : M Int32 := bn (stP 86 8 y2 y1 y0) fun _ => k29 this x1 (x2 + (1 : Int32))
set_option maxRecDepth 100000 in
theorem O_X11_night_L76 (Γ : Gam) (k29 : Nat → Option Nat → Int32 → M Int32) (hk29 : ∀ (z0 : Nat) (z1 : Option Nat) (z2 : Int32), Ok Γ mX11_night 9 (qo Γ vI) 29 [(0, va_rf (some z0)), (1, va_rf z1), (2, .int z2)] [] (k29 z0 z1 z2)) (this : Nat) (x1 : Option Nat) (x2 : Int32) (y0 : Option Nat) (y1 : Int32) (y2 : Option Nat) : Ok Γ mX11_night 9 (qo Γ vI) 76 [(0, va_rf (some this)), (1, va_rf x1), (2, .int x2)] [va_rf y0, .int y1, va_rf y2] (F_X11_night_L76 k29 this x1 x2 y0 y1 y2) := by
  unfold F_X11_night_L76
  refine ok_stP6 (kd := 86) (by decide) rfl (dd TX11_night_1 1 rfl) ?_
  refine ok_iinc (lv' := [(2, .int (x2 + (1 : Int32))), (0, va_rf (some this)), (1, va_rf x1)]) (dd TX11_night_1 2 rfl) 2 rfl (congrArg (fun q : Int32 => x2 + q) (show Int32.ofInt (1) = (1 : Int32) from by decide)) (by decide) (by first | rfl | (simp only [List.filter, cat_rf]; rfl)) ?_
  refine ok_goto (tgt := 29) (dd TX11_night_1 3 rfl) (by decide) ?_
  refine ok_sub [1, 2, 0] rfl ?_
  exact hk29 this x1 (x2 + (1 : Int32))
def F_X11_night_L29 : Nat → Nat → Option Nat → Int32 → M Int32
  | 0 => fun _ _ _ => fl
  | n + 1 => fun this x1 x2 => if (6 : Int32) ≤ x2 then bn (gP 11 7 (some this)) fun v7 => bn (pRc 13 v7) fun b8 => bn (F_Jx4a65c_add_9ea2d b8 x1) fun v9 => F_X11_night_L96 FU this x1 (0 : Int32) (0 : Int32) else bn (gP 11 2 (some this)) fun v10 => bn (lP 157 v10 x2) fun v11 => bn (pRc 2 v11) fun b12 => bn (F_X2_dropAll b12) fun _ => bn (pRc 11 (some this)) fun b13 => bn (F_X11_endPrice b13 x2) fun v14 => bn (gP 0 0 x1) fun v15 => if ¬ v14 = 0 then bn (newO 8 3) fun r16 => bn (gI 11 8 (some this)) fun v17 => bn (pRc 8 r16) fun b18 => bn (F_X8_init b18 v14 v17 none) fun _ => F_X11_night_L76 (F_X11_night_L29 n) this x1 x2 r16 x2 v15 else F_X11_night_L76 (F_X11_night_L29 n) this x1 x2 none x2 v15
set_option maxRecDepth 100000 in
theorem O_X11_night_L29 (Γ : Gam) (n : Nat) : ∀ (this : Nat) (x1 : Option Nat) (x2 : Int32), Ok Γ mX11_night 9 (qo Γ vI) 29 [(0, va_rf (some this)), (1, va_rf x1), (2, .int x2)] [] (F_X11_night_L29 n this x1 x2) := by
  induction n with
  | zero => intro this x1 x2; exact ok_fl
  | succ n ih =>
    intro this x1 x2
    rw [F_X11_night_L29]
    refine ok_iload_n (dd TX11_night_0 15 rfl) 2 rfl ?_
    refine ok_bipush (v := (6 : Int32)) (dd TX11_night_0 16 rfl) (by decide) ?_
    refine ok_icmp_ge (tgt := 83) (dd TX11_night_0 17 rfl) (by decide) ?_ ?_
    · refine ok_aload_n (dd TX11_night_1 4 rfl) 0 rfl ?_
      refine ok_gP fl_RX11_46 rfl (dd TX11_night_1 5 rfl) (fun v7 => ?_)
      refine ok_aload_n (dd TX11_night_1 6 rfl) 1 rfl ?_
      refine ok_callVI (cn := 13) [va_rf x1] [] (fun b8 => C_Jx4a65c_add_9ea2d Γ b8 x1) rfl cy_Jx4a65c_add_9ea2d ml_RX11_92 im_Jx4a65c_add_9ea2d se_Jx4a65c_add_9ea2d (by decide) (Nat.le_of_ble_eq_true rfl) rfl (dd TX11_night_1 7 rfl) (fun v9 => ?_)
      refine ok_pop (dd TX11_night_1 8 rfl) (by first | rfl | exact cat_rf _) ?_
      refine ok_iconst (v := (0 : Int32)) (dd TX11_night_1 9 rfl) (by decide) ?_
      refine ok_istore_n (lv' := [(2, .int (0 : Int32)), (0, va_rf (some this)), (1, va_rf x1)]) (dd TX11_night_1 10 rfl) (by decide) (by first | rfl | (simp only [List.filter, cat_rf]; rfl)) ?_
      refine ok_iconst (v := (0 : Int32)) (dd TX11_night_1 11 rfl) (by decide) ?_
      refine ok_istore_n (lv' := [(3, .int (0 : Int32)), (2, .int (0 : Int32)), (0, va_rf (some this)), (1, va_rf x1)]) (dd TX11_night_1 12 rfl) (by decide) (by first | rfl | (simp only [List.filter, cat_rf]; rfl)) ?_
      refine ok_sub [2, 3, 1, 0] rfl ?_
      exact O_X11_night_L96 Γ FU this x1 (0 : Int32) (0 : Int32)
    · refine ok_aload_n (dd TX11_night_0 18 rfl) 0 rfl ?_
      refine ok_gP fl_RX11_25 rfl (dd TX11_night_0 19 rfl) (fun v10 => ?_)
      refine ok_iload_n (dd TX11_night_0 20 rfl) 2 rfl ?_
      refine ok_lP5 (kd := 157) (by decide) rfl (dd TX11_night_0 21 rfl) (fun v11 => ?_)
      refine ok_callVV (cn := 2) [] [] (fun b12 => C_X2_dropAll Γ b12) rfl cy_X2_dropAll ml_RX11_193 im_X2_dropAll se_X2_dropAll (by decide) (Nat.le_of_ble_eq_true rfl) rfl (dd TX11_night_0 22 rfl) ?_
      refine ok_aload_n (dd TX11_night_0 23 rfl) 0 rfl ?_
      refine ok_iload_n (dd TX11_night_0 24 rfl) 2 rfl ?_
      refine ok_callVI (cn := 11) [.int x2] [] (fun b13 => C_X11_endPrice Γ b13 x2) rfl cy_X11_endPrice ml_RX11_196 im_X11_endPrice se_X11_endPrice (by decide) (Nat.le_of_ble_eq_true rfl) rfl (dd TX11_night_0 25 rfl) (fun v14 => ?_)
      refine ok_istore_n (lv' := [(3, .int v14), (0, va_rf (some this)), (1, va_rf x1), (2, .int x2)]) (dd TX11_night_0 26 rfl) (by decide) (by first | rfl | (simp only [List.filter, cat_rf]; rfl)) ?_
      refine ok_aload_n (dd TX11_night_0 27 rfl) 2 rfl ?_
      refine ok_gP fl_RX11_199 rfl (dd TX11_night_0 28 rfl) (fun v15 => ?_)
      refine ok_iload_n (dd TX11_night_0 29 rfl) 3 rfl ?_
      refine ok_iload_n (dd TX11_night_0 30 rfl) 0 rfl ?_
      refine ok_if_ne (tgt := 63) (dd TX11_night_0 31 rfl) (by decide) ?_ ?_
      · refine ok_newO cf_8 tyX8 tyX8_ok df_8 cl_RX11_203 ib_8 in_8 (dd TX11_night_0 34 rfl) (fun r16 => ?_)
        refine ok_dup (dd TX11_night_0 35 rfl) (by first | rfl | exact cat_rf _) ?_
        refine ok_iload_n (dd TX11_night_0 36 rfl) 0 rfl ?_
        refine ok_aload_n (dd TX11_night_0 37 rfl) 1 rfl ?_
        refine ok_gI fl_RX11_186 rfl (dd TX11_night_0 38 rfl) (fun v17 => ?_)
        refine ok_null (dd TX11_night_0 39 rfl) ?_
        refine ok_callI (cn := 8) [.int v14, .int v17, va_rf none] [va_rf r16, .int x2, va_rf v15] (fun b18 => C_X8_init Γ b18 v14 v17 none) cy_X8_init rfl rfl ml_RX11_205 im_X8_init (by decide) (Nat.le_of_ble_eq_true rfl) rfl (dd TX11_night_1 0 rfl) ?_
        refine ok_sub [1, 2, 3] rfl ?_
        exact O_X11_night_L76 Γ (F_X11_night_L29 n) ih this x1 x2 r16 x2 v15
      · refine ok_null (dd TX11_night_0 32 rfl) ?_
        refine ok_goto (tgt := 76) (dd TX11_night_0 33 rfl) (by decide) ?_
        refine ok_sub [1, 2, 3] rfl ?_
        exact O_X11_night_L76 Γ (F_X11_night_L29 n) ih this x1 x2 none x2 v15
def F_X11_night (this : Nat) : M Int32 := bn (gI 11 8 (some this)) fun v1 => if v1 < (150 : Int32) then bn (newO 0 3) fun r2 => bn (gP 11 3 (some this)) fun v3 => bn (pRc 13 v3) fun b4 => bn (F_Jx4a65c_size_8abf5 b4) fun v5 => bn (pRc 0 r2) fun b6 => bn (F_X0_init b6 v5) fun _ => F_X11_night_L29 FU this r2 (0 : Int32) else rt (-1 : Int32)
set_option maxRecDepth 100000 in
theorem C_X11_night (Γ : Gam) (this : Nat) : Ct Γ mX11_night 9 vI [va_rf (some this)] (F_X11_night this) := by
  refine ct_in (lv := [(0, va_rf (some this))]) (by decide) (by first | rfl | (simp only [lv_args, cat_rf]; rfl)) (by first | exact Nat.le_of_ble_eq_true rfl | (rw [lg_len]; simp only [List.map_cons, List.map_nil, cat_rf]; exact Nat.le_of_ble_eq_true rfl)) ?_
  unfold F_X11_night
  refine ok_aload_n (dd TX11_night_0 0 rfl) 0 rfl ?_
  refine ok_gI fl_RX11_186 rfl (dd TX11_night_0 1 rfl) (fun v1 => ?_)
  refine ok_sipush (v := (150 : Int32)) (dd TX11_night_0 2 rfl) (by decide) ?_
  refine ok_icmp_lt (tgt := 12) (dd TX11_night_0 3 rfl) (by decide) ?_ ?_
  · refine ok_newO cf_0 tyX0 tyX0_ok df_0 cl_RX11_189 ib_0 in_0 (dd TX11_night_0 6 rfl) (fun r2 => ?_)
    refine ok_dup (dd TX11_night_0 7 rfl) (by first | rfl | exact cat_rf _) ?_
    refine ok_aload_n (dd TX11_night_0 8 rfl) 0 rfl ?_
    refine ok_gP fl_RX11_33 rfl (dd TX11_night_0 9 rfl) (fun v3 => ?_)
    refine ok_callVI (cn := 13) [] [va_rf r2, va_rf r2] (fun b4 => C_Jx4a65c_size_8abf5 Γ b4) rfl cy_Jx4a65c_size_8abf5 ml_RX11_85 im_Jx4a65c_size_8abf5 se_Jx4a65c_size_8abf5 (by decide) (Nat.le_of_ble_eq_true rfl) rfl (dd TX11_night_0 10 rfl) (fun v5 => ?_)
    refine ok_callI (cn := 0) [.int v5] [va_rf r2] (fun b6 => C_X0_init Γ b6 v5) cy_X0_init rfl rfl ml_RX11_191 im_X0_init (by decide) (Nat.le_of_ble_eq_true rfl) rfl (dd TX11_night_0 11 rfl) ?_
    refine ok_astore_n (lv' := [(1, va_rf r2), (0, va_rf (some this))]) (dd TX11_night_0 12 rfl) (by decide) (by first | rfl | (simp only [List.filter, cat_rf]; rfl)) ?_
    refine ok_iconst (v := (0 : Int32)) (dd TX11_night_0 13 rfl) (by decide) ?_
    refine ok_istore_n (lv' := [(2, .int (0 : Int32)), (1, va_rf r2), (0, va_rf (some this))]) (dd TX11_night_0 14 rfl) (by decide) (by first | rfl | (simp only [List.filter, cat_rf]; rfl)) ?_
    refine ok_sub [2, 1, 0] rfl ?_
    exact O_X11_night_L29 Γ FU this r2 (0 : Int32)
  · refine ok_iconst (v := (-1 : Int32)) (dd TX11_night_0 4 rfl) (by decide) ?_
    exact ok_ireturn (dd TX11_night_0 5 rfl) rfl
def F_X11_reasonAgainst_L166  : M Int32 := rt (5 : Int32)
set_option maxRecDepth 100000 in
theorem O_X11_reasonAgainst_L166 (Γ : Gam)  : Ok Γ mX11_reasonAgainst 6 (qo Γ vI) 166 [] [] (F_X11_reasonAgainst_L166 ) := by
  unfold F_X11_reasonAgainst_L166
  refine ok_iconst (v := (5 : Int32)) (dd TX11_reasonAgainst_2 7 rfl) (by decide) ?_
  refine ok_goto (tgt := 171) (dd TX11_reasonAgainst_2 8 rfl) (by decide) ?_
  exact ok_ireturn (dd TX11_reasonAgainst_2 10 rfl) rfl
def F_X11_reasonAgainst_L98 (this : Nat) (x1 : Int32) (x2 : Int32) (x3 : Int32) (x5 : Int32) (y0 : Int32) : M Int32 := bn (gP 11 2 (some this)) fun v15 => bn (lP 157 v15 x3) fun v16 => bn (pRc 2 v16) fun b17 => bn (F_X2_lotsWaiting b17 x2 x1) fun v18 => bn (gP 11 1 (some this)) fun v19 => bn (gI 11 8 (some this)) fun v20 => bn (pRc 7 v19) fun b21 => bn (F_X7_valueOf b21 (3 : Int32) v20 x3 (0 : Int32) x5 (0 : Int32) (0 : Int32)) fun v22 => if ((y0 + v18) + x5) ≤ v22 then bn (pRc 11 (some this)) fun b23 => bn (F_X11_allWaiting b23) fun v24 => if (120 : Int32) ≤ v24 then F_X11_reasonAgainst_L166  else bn (gP 11 4 (some this)) fun v25 => bn (pRc 13 v25) fun b26 => bn (F_Jx4a65c_size_8abf5 b26) fun v27 => if v27 < (700 : Int32) then rt (0 : Int32) else F_X11_reasonAgainst_L166  else rt (4 : Int32)
set_option maxRecDepth 100000 in
theorem O_X11_reasonAgainst_L98 (Γ : Gam) (this : Nat) (x1 : Int32) (x2 : Int32) (x3 : Int32) (x5 : Int32) (y0 : Int32) : Ok Γ mX11_reasonAgainst 6 (qo Γ vI) 98 [(0, va_rf (some this)), (1, .int x1), (2, .int x2), (3, .int x3), (5, .int x5)] [.int y0] (F_X11_reasonAgainst_L98 this x1 x2 x3 x5 y0) := by
  unfold F_X11_reasonAgainst_L98
  refine ok_istore (lv' := [(7, .int y0), (0, va_rf (some this)), (1, .int x1), (2, .int x2), (3, .int x3), (5, .int x5)]) (dd TX11_reasonAgainst_1 10 rfl) (by decide) (by first | rfl | (simp only [List.filter, cat_rf]; rfl)) ?_
  refine ok_iload (dd TX11_reasonAgainst_1 11 rfl) 0 rfl ?_
  refine ok_aload_n (dd TX11_reasonAgainst_1 12 rfl) 1 rfl ?_
  refine ok_gP fl_RX11_25 rfl (dd TX11_reasonAgainst_1 13 rfl) (fun v15 => ?_)
  refine ok_iload_n (dd TX11_reasonAgainst_1 14 rfl) 4 rfl ?_
  refine ok_lP5 (kd := 157) (by decide) rfl (dd TX11_reasonAgainst_1 15 rfl) (fun v16 => ?_)
  refine ok_iload_n (dd TX11_reasonAgainst_1 16 rfl) 3 rfl ?_
  refine ok_iload_n (dd TX11_reasonAgainst_1 17 rfl) 2 rfl ?_
  refine ok_callVI (cn := 2) [.int x2, .int x1] [.int y0] (fun b17 => C_X2_lotsWaiting Γ b17 x2 x1) rfl cy_X2_lotsWaiting ml_RX11_381 im_X2_lotsWaiting se_X2_lotsWaiting (by decide) (Nat.le_of_ble_eq_true rfl) rfl (dd TX11_reasonAgainst_1 18 rfl) (fun v18 => ?_)
  refine ok_iadd (dd TX11_reasonAgainst_1 19 rfl) ?_
  refine ok_iload (dd TX11_reasonAgainst_1 20 rfl) 5 rfl ?_
  refine ok_iadd (dd TX11_reasonAgainst_1 21 rfl) ?_
  refine ok_istore (lv' := [(8, .int ((y0 + v18) + x5)), (7, .int y0), (0, va_rf (some this)), (1, .int x1), (2, .int x2), (3, .int x3), (5, .int x5)]) (dd TX11_reasonAgainst_1 22 rfl) (by decide) (by first | rfl | (simp only [List.filter, cat_rf]; rfl)) ?_
  refine ok_iload (dd TX11_reasonAgainst_1 23 rfl) 0 rfl ?_
  refine ok_aload_n (dd TX11_reasonAgainst_1 24 rfl) 2 rfl ?_
  refine ok_gP fl_RX11_19 rfl (dd TX11_reasonAgainst_1 25 rfl) (fun v19 => ?_)
  refine ok_iconst (v := (3 : Int32)) (dd TX11_reasonAgainst_1 26 rfl) (by decide) ?_
  refine ok_aload_n (dd TX11_reasonAgainst_1 27 rfl) 2 rfl ?_
  refine ok_gI fl_RX11_186 rfl (dd TX11_reasonAgainst_1 28 rfl) (fun v20 => ?_)
  refine ok_iload_n (dd TX11_reasonAgainst_1 29 rfl) 5 rfl ?_
  refine ok_iconst (v := (0 : Int32)) (dd TX11_reasonAgainst_1 30 rfl) (by decide) ?_
  refine ok_iload (dd TX11_reasonAgainst_1 31 rfl) 6 rfl ?_
  refine ok_iconst (v := (0 : Int32)) (dd TX11_reasonAgainst_1 32 rfl) (by decide) ?_
  refine ok_iconst (v := (0 : Int32)) (dd TX11_reasonAgainst_1 33 rfl) (by decide) ?_
  refine ok_callVI (cn := 7) [.int (3 : Int32), .int v20, .int x3, .int (0 : Int32), .int x5, .int (0 : Int32), .int (0 : Int32)] [.int ((y0 + v18) + x5)] (fun b21 => C_X7_valueOf Γ b21 (3 : Int32) v20 x3 (0 : Int32) x5 (0 : Int32) (0 : Int32)) rfl cy_X7_valueOf ml_RX11_81 im_X7_valueOf se_X7_valueOf (by decide) (Nat.le_of_ble_eq_true rfl) rfl (dd TX11_reasonAgainst_1 34 rfl) (fun v22 => ?_)
  refine ok_icmp_le (tgt := 144) (dd TX11_reasonAgainst_1 35 rfl) (by decide) ?_ ?_
  · refine ok_aload_n (dd TX11_reasonAgainst_1 38 rfl) 2 rfl ?_
    refine ok_callVI (cn := 11) [] [] (fun b23 => C_X11_allWaiting Γ b23) rfl cy_X11_allWaiting ml_RX11_247 im_X11_allWaiting se_X11_allWaiting (by decide) (Nat.le_of_ble_eq_true rfl) rfl (dd TX11_reasonAgainst_1 39 rfl) (fun v24 => ?_)
    refine ok_bipush (v := (120 : Int32)) (dd TX11_reasonAgainst_2 0 rfl) (by decide) ?_
    refine ok_icmp_ge (tgt := 166) (dd TX11_reasonAgainst_2 1 rfl) (by decide) ?_ ?_
    · refine ok_sub [] rfl ?_
      exact O_X11_reasonAgainst_L166 Γ 
    · refine ok_aload_n (dd TX11_reasonAgainst_2 2 rfl) 2 rfl ?_
      refine ok_gP fl_RX11_37 rfl (dd TX11_reasonAgainst_2 3 rfl) (fun v25 => ?_)
      refine ok_callVI (cn := 13) [] [] (fun b26 => C_Jx4a65c_size_8abf5 Γ b26) rfl cy_Jx4a65c_size_8abf5 ml_RX11_85 im_Jx4a65c_size_8abf5 se_Jx4a65c_size_8abf5 (by decide) (Nat.le_of_ble_eq_true rfl) rfl (dd TX11_reasonAgainst_2 4 rfl) (fun v27 => ?_)
      refine ok_sipush (v := (700 : Int32)) (dd TX11_reasonAgainst_2 5 rfl) (by decide) ?_
      refine ok_icmp_lt (tgt := 170) (dd TX11_reasonAgainst_2 6 rfl) (by decide) ?_ ?_
      · refine ok_iconst (v := (0 : Int32)) (dd TX11_reasonAgainst_2 9 rfl) (by decide) ?_
        exact ok_ireturn (dd TX11_reasonAgainst_2 10 rfl) rfl
      · refine ok_sub [] rfl ?_
        exact O_X11_reasonAgainst_L166 Γ 
  · refine ok_iconst (v := (4 : Int32)) (dd TX11_reasonAgainst_1 36 rfl) (by decide) ?_
    exact ok_ireturn (dd TX11_reasonAgainst_1 37 rfl) rfl
def F_X11_reasonAgainst (this : Nat) (p0 : Int32) (p1 : Int32) (p2 : Int32) (p3 : Int32) (p4 : Int32) : M Int32 := bn (pRc 11 (some this)) fun b1 => bn (F_X11_memberOf b1 p0) fun v2 => if v2 = none then rt (1 : Int32) else bn (F_X11_isMonth p2) fun v3 => if v3 = 0 then rt (1 : Int32) else if p4 < (1 : Int32) then rt (1 : Int32) else if (50 : Int32) < p4 then rt (1 : Int32) else bn (F_X11_isPrice p3) fun v4 => if ¬ v4 = 0 then bn (gI 1 4 v2) fun v5 => if ¬ v5 = 0 then rt (2 : Int32) else bn (gP 11 2 (some this)) fun v6 => bn (lP 157 v6 p2) fun v7 => bn (gI 2 3 v7) fun v8 => if v8 = 0 then bn (pRc 11 (some this)) fun b9 => bn (F_X11_isTooFar b9 p2 p3) fun v10 => if v10 = 0 then if p1 = 0 then bn (gP 1 0 v2) fun v11 => bn (lI 104 v11 p2) fun v12 => F_X11_reasonAgainst_L98 this p0 p1 p2 p4 (-v12) else bn (gP 1 0 v2) fun v13 => bn (lI 104 v13 p2) fun v14 => F_X11_reasonAgainst_L98 this p0 p1 p2 p4 v14 else rt (3 : Int32) else rt (2 : Int32) else rt (1 : Int32)
set_option maxRecDepth 100000 in
theorem C_X11_reasonAgainst (Γ : Gam) (this : Nat) (p0 : Int32) (p1 : Int32) (p2 : Int32) (p3 : Int32) (p4 : Int32) : Ct Γ mX11_reasonAgainst 6 vI [va_rf (some this), .int p0, .int p1, .int p2, .int p3, .int p4] (F_X11_reasonAgainst this p0 p1 p2 p3 p4) := by
  refine ct_in (lv := [(0, va_rf (some this)), (1, .int p0), (2, .int p1), (3, .int p2), (4, .int p3), (5, .int p4)]) (by decide) (by first | rfl | (simp only [lv_args, cat_rf]; rfl)) (by first | exact Nat.le_of_ble_eq_true rfl | (rw [lg_len]; simp only [List.map_cons, List.map_nil, cat_rf]; exact Nat.le_of_ble_eq_true rfl)) ?_
  unfold F_X11_reasonAgainst
  refine ok_aload_n (dd TX11_reasonAgainst_0 0 rfl) 0 rfl ?_
  refine ok_iload_n (dd TX11_reasonAgainst_0 1 rfl) 1 rfl ?_
  refine ok_callVR (cn := 11) [.int p0] [] (fun b1 => C_X11_memberOf Γ b1 p0) rfl cy_X11_memberOf ml_RX11_96 im_X11_memberOf se_X11_memberOf (by decide) (Nat.le_of_ble_eq_true rfl) rfl (dd TX11_reasonAgainst_0 2 rfl) (fun v2 => ?_)
  refine ok_astore (lv' := [(6, va_rf v2), (0, va_rf (some this)), (1, .int p0), (2, .int p1), (3, .int p2), (4, .int p3), (5, .int p4)]) (dd TX11_reasonAgainst_0 3 rfl) (by decide) (by first | rfl | (simp only [List.filter, cat_rf]; rfl)) ?_
  refine ok_aload (dd TX11_reasonAgainst_0 4 rfl) 0 rfl ?_
  refine ok_ifnull (tgt := 40) (dd TX11_reasonAgainst_0 5 rfl) (by decide) ?_ ?_
  · refine ok_iconst (v := (1 : Int32)) (dd TX11_reasonAgainst_0 18 rfl) (by decide) ?_
    exact ok_ireturn (dd TX11_reasonAgainst_0 19 rfl) rfl
  · refine ok_iload_n (dd TX11_reasonAgainst_0 6 rfl) 4 rfl ?_
    refine ok_callSI [.int p2] [] (C_X11_isMonth Γ p2) cy_X11_isMonth ml_RX11_127 sm_X11_isMonth (by decide) (Nat.le_of_ble_eq_true rfl) rfl (dd TX11_reasonAgainst_0 7 rfl) (fun v3 => ?_)
    refine ok_if_eq (tgt := 40) (dd TX11_reasonAgainst_0 8 rfl) (by decide) ?_ ?_
    · refine ok_iconst (v := (1 : Int32)) (dd TX11_reasonAgainst_0 18 rfl) (by decide) ?_
      exact ok_ireturn (dd TX11_reasonAgainst_0 19 rfl) rfl
    · refine ok_iload (dd TX11_reasonAgainst_0 9 rfl) 6 rfl ?_
      refine ok_iconst (v := (1 : Int32)) (dd TX11_reasonAgainst_0 10 rfl) (by decide) ?_
      refine ok_icmp_lt (tgt := 40) (dd TX11_reasonAgainst_0 11 rfl) (by decide) ?_ ?_
      · refine ok_iconst (v := (1 : Int32)) (dd TX11_reasonAgainst_0 18 rfl) (by decide) ?_
        exact ok_ireturn (dd TX11_reasonAgainst_0 19 rfl) rfl
      · refine ok_iload (dd TX11_reasonAgainst_0 12 rfl) 6 rfl ?_
        refine ok_bipush (v := (50 : Int32)) (dd TX11_reasonAgainst_0 13 rfl) (by decide) ?_
        refine ok_icmp_gt (tgt := 40) (dd TX11_reasonAgainst_0 14 rfl) (by decide) ?_ ?_
        · refine ok_iconst (v := (1 : Int32)) (dd TX11_reasonAgainst_0 18 rfl) (by decide) ?_
          exact ok_ireturn (dd TX11_reasonAgainst_0 19 rfl) rfl
        · refine ok_iload (dd TX11_reasonAgainst_0 15 rfl) 5 rfl ?_
          refine ok_callSI [.int p3] [] (C_X11_isPrice Γ p3) cy_X11_isPrice ml_RX11_329 sm_X11_isPrice (by decide) (Nat.le_of_ble_eq_true rfl) rfl (dd TX11_reasonAgainst_0 16 rfl) (fun v4 => ?_)
          refine ok_if_ne (tgt := 42) (dd TX11_reasonAgainst_0 17 rfl) (by decide) ?_ ?_
          · refine ok_aload (dd TX11_reasonAgainst_0 20 rfl) 0 rfl ?_
            refine ok_gZ fl_RX11_228 rfl (dd TX11_reasonAgainst_0 21 rfl) (fun v5 => ?_)
            refine ok_if_ne (tgt := 62) (dd TX11_reasonAgainst_0 22 rfl) (by decide) ?_ ?_
            · refine ok_iconst (v := (2 : Int32)) (dd TX11_reasonAgainst_0 29 rfl) (by decide) ?_
              exact ok_ireturn (dd TX11_reasonAgainst_0 30 rfl) rfl
            · refine ok_aload_n (dd TX11_reasonAgainst_0 23 rfl) 1 rfl ?_
              refine ok_gP fl_RX11_25 rfl (dd TX11_reasonAgainst_0 24 rfl) (fun v6 => ?_)
              refine ok_iload_n (dd TX11_reasonAgainst_0 25 rfl) 4 rfl ?_
              refine ok_lP5 (kd := 157) (by decide) rfl (dd TX11_reasonAgainst_0 26 rfl) (fun v7 => ?_)
              refine ok_gZ fl_RX11_176 rfl (dd TX11_reasonAgainst_0 27 rfl) (fun v8 => ?_)
              refine ok_if_eq (tgt := 64) (dd TX11_reasonAgainst_0 28 rfl) (by decide) ?_ ?_
              · refine ok_aload_n (dd TX11_reasonAgainst_0 31 rfl) 1 rfl ?_
                refine ok_iload_n (dd TX11_reasonAgainst_0 32 rfl) 4 rfl ?_
                refine ok_iload (dd TX11_reasonAgainst_0 33 rfl) 5 rfl ?_
                refine ok_callVI (cn := 11) [.int p2, .int p3] [] (fun b9 => C_X11_isTooFar Γ b9 p2 p3) rfl cy_X11_isTooFar ml_RX11_378 im_X11_isTooFar se_X11_isTooFar (by decide) (Nat.le_of_ble_eq_true rfl) rfl (dd TX11_reasonAgainst_0 34 rfl) (fun v10 => ?_)
                refine ok_if_eq (tgt := 76) (dd TX11_reasonAgainst_0 35 rfl) (by decide) ?_ ?_
                · refine ok_iload_n (dd TX11_reasonAgainst_0 38 rfl) 3 rfl ?_
                  refine ok_if_eq (tgt := 90) (dd TX11_reasonAgainst_0 39 rfl) (by decide) ?_ ?_
                  · refine ok_aload (dd TX11_reasonAgainst_1 5 rfl) 0 rfl ?_
                    refine ok_gP fl_RX11_240 rfl (dd TX11_reasonAgainst_1 6 rfl) (fun v11 => ?_)
                    refine ok_iload_n (dd TX11_reasonAgainst_1 7 rfl) 4 rfl ?_
                    refine ok_lI (kd := 104) (by decide) rfl (dd TX11_reasonAgainst_1 8 rfl) (fun v12 => ?_)
                    refine ok_ineg (dd TX11_reasonAgainst_1 9 rfl) ?_
                    refine ok_sub [1, 2, 3, 4, 6] rfl ?_
                    exact O_X11_reasonAgainst_L98 Γ this p0 p1 p2 p4 (-v12)
                  · refine ok_aload (dd TX11_reasonAgainst_1 0 rfl) 0 rfl ?_
                    refine ok_gP fl_RX11_240 rfl (dd TX11_reasonAgainst_1 1 rfl) (fun v13 => ?_)
                    refine ok_iload_n (dd TX11_reasonAgainst_1 2 rfl) 4 rfl ?_
                    refine ok_lI (kd := 104) (by decide) rfl (dd TX11_reasonAgainst_1 3 rfl) (fun v14 => ?_)
                    refine ok_goto (tgt := 98) (dd TX11_reasonAgainst_1 4 rfl) (by decide) ?_
                    refine ok_sub [1, 2, 3, 4, 6] rfl ?_
                    exact O_X11_reasonAgainst_L98 Γ this p0 p1 p2 p4 v14
                · refine ok_iconst (v := (3 : Int32)) (dd TX11_reasonAgainst_0 36 rfl) (by decide) ?_
                  exact ok_ireturn (dd TX11_reasonAgainst_0 37 rfl) rfl
              · refine ok_iconst (v := (2 : Int32)) (dd TX11_reasonAgainst_0 29 rfl) (by decide) ?_
                exact ok_ireturn (dd TX11_reasonAgainst_0 30 rfl) rfl
          · refine ok_iconst (v := (1 : Int32)) (dd TX11_reasonAgainst_0 18 rfl) (by decide) ?_
            exact ok_ireturn (dd TX11_reasonAgainst_0 19 rfl) rfl
def F_X4_readText_L94 : Nat → Option Nat → Int32 → Int32 → M Int32
  | 0 => fun _ _ _ => fl
  | n + 1 => fun x1 x2 x3 => if x3 < x2 then rt (-1 : Int32) else bn (pRc 13 x1) fun b12 => bn (F_Jx4a65c_remove_915e3 b12 x3) fun v13 => F_X4_readText_L94 n x1 x2 (x3 + (-1 : Int32))
set_option maxRecDepth 100000 in
theorem O_X4_readText_L94 (Γ : Gam) (n : Nat) : ∀ (x1 : Option Nat) (x2 : Int32) (x3 : Int32), Ok Γ mX4_readText 108 (qo Γ vI) 94 [(1, va_rf x1), (2, .int x2), (3, .int x3)] [] (F_X4_readText_L94 n x1 x2 x3) := by
  induction n with
  | zero => intro x1 x2 x3; exact ok_fl
  | succ n ih =>
    intro x1 x2 x3
    rw [F_X4_readText_L94]
    refine ok_iload_n (dd TX4_readText_1 11 rfl) 2 rfl ?_
    refine ok_iload_n (dd TX4_readText_1 12 rfl) 1 rfl ?_
    refine ok_icmp_lt (tgt := 111) (dd TX4_readText_1 13 rfl) (by decide) ?_ ?_
    · refine ok_iconst (v := (-1 : Int32)) (dd TX4_readText_1 20 rfl) (by decide) ?_
      exact ok_ireturn (dd TX4_readText_1 21 rfl) rfl
    · refine ok_aload_n (dd TX4_readText_1 14 rfl) 0 rfl ?_
      refine ok_iload_n (dd TX4_readText_1 15 rfl) 2 rfl ?_
      refine ok_callVR (cn := 13) [.int x3] [] (fun b12 => C_Jx4a65c_remove_915e3 Γ b12 x3) rfl cy_Jx4a65c_remove_915e3 ml_RX4_48 im_Jx4a65c_remove_915e3 se_Jx4a65c_remove_915e3 (by decide) (Nat.le_of_ble_eq_true rfl) rfl (dd TX4_readText_1 16 rfl) (fun v13 => ?_)
      refine ok_pop (dd TX4_readText_1 17 rfl) (by first | rfl | exact cat_rf _) ?_
      refine ok_iinc (lv' := [(3, .int (x3 + (-1 : Int32))), (1, va_rf x1), (2, .int x2)]) (dd TX4_readText_1 18 rfl) 2 rfl (congrArg (fun q : Int32 => x3 + q) (show Int32.ofInt (-1) = (-1 : Int32) from by decide)) (by decide) (by first | rfl | (simp only [List.filter, cat_rf]; rfl)) ?_
      refine ok_goto (tgt := 94) (dd TX4_readText_1 19 rfl) (by decide) ?_
      refine ok_sub [1, 2, 0] rfl ?_
      exact ih x1 x2 (x3 + (-1 : Int32))
def F_X4_readText_L68 (this : Nat) (x1 : Option Nat) (x2 : Int32) : M Int32 := bn (wI 4 1 (some this) (0 : Int32)) fun _ => bn (gI 4 2 (some this)) fun v7 => if ¬ v7 = 0 then bn (pRc 13 x1) fun b8 => bn (F_Jx4a65c_size_8abf5 b8) fun v9 => F_X4_readText_L94 FU x1 x2 (v9 - (1 : Int32)) else bn (pRc 13 x1) fun b10 => bn (F_Jx4a65c_size_8abf5 b10) fun v11 => rt (v11 - x2)
set_option maxRecDepth 100000 in
theorem O_X4_readText_L68 (Γ : Gam) (this : Nat) (x1 : Option Nat) (x2 : Int32) : Ok Γ mX4_readText 108 (qo Γ vI) 68 [(0, va_rf (some this)), (1, va_rf x1), (2, .int x2)] [] (F_X4_readText_L68 this x1 x2) := by
  unfold F_X4_readText_L68
  refine ok_aload_n (dd TX4_readText_0 35 rfl) 0 rfl ?_
  refine ok_iconst (v := (0 : Int32)) (dd TX4_readText_0 36 rfl) (by decide) ?_
  refine ok_wI fl_RX4_19 (Or.inl rfl) (tyX4_ok 1 (by decide)) (by decide) rfl (dd TX4_readText_0 37 rfl) ?_
  refine ok_aload_n (dd TX4_readText_0 38 rfl) 0 rfl ?_
  refine ok_gI fl_RX4_29 rfl (dd TX4_readText_0 39 rfl) (fun v7 => ?_)
  refine ok_if_ne (tgt := 87) (dd TX4_readText_1 0 rfl) (by decide) ?_ ?_
  · refine ok_aload_n (dd TX4_readText_1 6 rfl) 1 rfl ?_
    refine ok_callVI (cn := 13) [] [] (fun b8 => C_Jx4a65c_size_8abf5 Γ b8) rfl cy_Jx4a65c_size_8abf5 ml_RX4_23 im_Jx4a65c_size_8abf5 se_Jx4a65c_size_8abf5 (by decide) (Nat.le_of_ble_eq_true rfl) rfl (dd TX4_readText_1 7 rfl) (fun v9 => ?_)
    refine ok_iconst (v := (1 : Int32)) (dd TX4_readText_1 8 rfl) (by decide) ?_
    refine ok_isub (dd TX4_readText_1 9 rfl) ?_
    refine ok_istore_n (lv' := [(3, .int (v9 - (1 : Int32))), (0, va_rf (some this)), (1, va_rf x1), (2, .int x2)]) (dd TX4_readText_1 10 rfl) (by decide) (by first | rfl | (simp only [List.filter, cat_rf]; rfl)) ?_
    refine ok_sub [2, 3, 0] rfl ?_
    exact O_X4_readText_L94 Γ FU x1 x2 (v9 - (1 : Int32))
  · refine ok_aload_n (dd TX4_readText_1 1 rfl) 1 rfl ?_
    refine ok_callVI (cn := 13) [] [] (fun b10 => C_Jx4a65c_size_8abf5 Γ b10) rfl cy_Jx4a65c_size_8abf5 ml_RX4_23 im_Jx4a65c_size_8abf5 se_Jx4a65c_size_8abf5 (by decide) (Nat.le_of_ble_eq_true rfl) rfl (dd TX4_readText_1 2 rfl) (fun v11 => ?_)
    refine ok_iload_n (dd TX4_readText_1 3 rfl) 2 rfl ?_
    refine ok_isub (dd TX4_readText_1 4 rfl) ?_
    exact ok_ireturn (dd TX4_readText_1 5 rfl) rfl
def F_X4_readText_L32 : Nat → Nat → Option Nat → Int32 → Int32 → M Int32
  | 0 => fun _ _ _ _ => fl
  | n + 1 => fun this x1 x2 x3 => if (600 : Int32) ≤ x3 then F_X4_readText_L68 this x1 x2 else bn (gI 4 6 (some this)) fun v4 => if v4 = (17 : Int32) then F_X4_readText_L68 this x1 x2 else bn (gI 4 6 (some this)) fun v5 => if v5 = (18 : Int32) then F_X4_readText_L68 this x1 x2 else bn (pRc 4 (some this)) fun b6 => bn (F_X4_readRule b6 x1) fun _ => F_X4_readText_L32 n this x1 x2 (x3 + (1 : Int32))
set_option maxRecDepth 100000 in
theorem O_X4_readText_L32 (Γ : Gam) (n : Nat) : ∀ (this : Nat) (x1 : Option Nat) (x2 : Int32) (x3 : Int32), Ok Γ mX4_readText 108 (qo Γ vI) 32 [(0, va_rf (some this)), (1, va_rf x1), (2, .int x2), (3, .int x3)] [] (F_X4_readText_L32 n this x1 x2 x3) := by
  induction n with
  | zero => intro this x1 x2 x3; exact ok_fl
  | succ n ih =>
    intro this x1 x2 x3
    rw [F_X4_readText_L32]
    refine ok_iload_n (dd TX4_readText_0 19 rfl) 3 rfl ?_
    refine ok_sipush (v := (600 : Int32)) (dd TX4_readText_0 20 rfl) (by decide) ?_
    refine ok_icmp_ge (tgt := 68) (dd TX4_readText_0 21 rfl) (by decide) ?_ ?_
    · refine ok_sub [0, 1, 2] rfl ?_
      exact O_X4_readText_L68 Γ this x1 x2
    · refine ok_aload_n (dd TX4_readText_0 22 rfl) 0 rfl ?_
      refine ok_gI fl_RX4_38 rfl (dd TX4_readText_0 23 rfl) (fun v4 => ?_)
      refine ok_bipush (v := (17 : Int32)) (dd TX4_readText_0 24 rfl) (by decide) ?_
      refine ok_icmp_eq (tgt := 68) (dd TX4_readText_0 25 rfl) (by decide) ?_ ?_
      · refine ok_sub [0, 1, 2] rfl ?_
        exact O_X4_readText_L68 Γ this x1 x2
      · refine ok_aload_n (dd TX4_readText_0 26 rfl) 0 rfl ?_
        refine ok_gI fl_RX4_38 rfl (dd TX4_readText_0 27 rfl) (fun v5 => ?_)
        refine ok_bipush (v := (18 : Int32)) (dd TX4_readText_0 28 rfl) (by decide) ?_
        refine ok_icmp_eq (tgt := 68) (dd TX4_readText_0 29 rfl) (by decide) ?_ ?_
        · refine ok_sub [0, 1, 2] rfl ?_
          exact O_X4_readText_L68 Γ this x1 x2
        · refine ok_aload_n (dd TX4_readText_0 30 rfl) 0 rfl ?_
          refine ok_aload_n (dd TX4_readText_0 31 rfl) 1 rfl ?_
          refine ok_callVV (cn := 4) [va_rf x1] [] (fun b6 => C_X4_readRule Γ b6 x1) rfl cy_X4_readRule ml_RX4_44 im_X4_readRule se_X4_readRule (by decide) (Nat.le_of_ble_eq_true rfl) rfl (dd TX4_readText_0 32 rfl) ?_
          refine ok_iinc (lv' := [(3, .int (x3 + (1 : Int32))), (0, va_rf (some this)), (1, va_rf x1), (2, .int x2)]) (dd TX4_readText_0 33 rfl) 3 rfl (congrArg (fun q : Int32 => x3 + q) (show Int32.ofInt (1) = (1 : Int32) from by decide)) (by decide) (by first | rfl | (simp only [List.filter, cat_rf]; rfl)) ?_
          refine ok_goto (tgt := 32) (dd TX4_readText_0 34 rfl) (by decide) ?_
          refine ok_sub [1, 2, 3, 0] rfl ?_
          exact ih this x1 x2 (x3 + (1 : Int32))
def F_X4_readText (this : Nat) (p0 : Option Nat) : M Int32 := bn (pRc 13 p0) fun b1 => bn (F_Jx4a65c_size_8abf5 b1) fun v2 => bn (wI 4 2 (some this) (0 : Int32)) fun _ => bn (wI 4 3 (some this) (0 : Int32)) fun _ => bn (wI 4 4 (some this) (0 : Int32)) fun _ => bn (wI 4 6 (some this) (17 : Int32)) fun _ => bn (pRc 4 (some this)) fun b3 => bn (F_X4_advance b3) fun _ => F_X4_readText_L32 FU this p0 v2 (0 : Int32)
set_option maxRecDepth 100000 in
theorem C_X4_readText (Γ : Gam) (this : Nat) (p0 : Option Nat) : Ct Γ mX4_readText 108 vI [va_rf (some this), va_rf p0] (F_X4_readText this p0) := by
  refine ct_in (lv := [(0, va_rf (some this)), (1, va_rf p0)]) (by decide) (by first | rfl | (simp only [lv_args, cat_rf]; rfl)) (by first | exact Nat.le_of_ble_eq_true rfl | (rw [lg_len]; simp only [List.map_cons, List.map_nil, cat_rf]; exact Nat.le_of_ble_eq_true rfl)) ?_
  unfold F_X4_readText
  refine ok_aload_n (dd TX4_readText_0 0 rfl) 1 rfl ?_
  refine ok_callVI (cn := 13) [] [] (fun b1 => C_Jx4a65c_size_8abf5 Γ b1) rfl cy_Jx4a65c_size_8abf5 ml_RX4_23 im_Jx4a65c_size_8abf5 se_Jx4a65c_size_8abf5 (by decide) (Nat.le_of_ble_eq_true rfl) rfl (dd TX4_readText_0 1 rfl) (fun v2 => ?_)
  refine ok_istore_n (lv' := [(2, .int v2), (0, va_rf (some this)), (1, va_rf p0)]) (dd TX4_readText_0 2 rfl) (by decide) (by first | rfl | (simp only [List.filter, cat_rf]; rfl)) ?_
  refine ok_aload_n (dd TX4_readText_0 3 rfl) 1 rfl ?_
  refine ok_iconst (v := (0 : Int32)) (dd TX4_readText_0 4 rfl) (by decide) ?_
  refine ok_wI fl_RX4_29 (Or.inl rfl) (tyX4_ok 2 (by decide)) (by decide) rfl (dd TX4_readText_0 5 rfl) ?_
  refine ok_aload_n (dd TX4_readText_0 6 rfl) 1 rfl ?_
  refine ok_iconst (v := (0 : Int32)) (dd TX4_readText_0 7 rfl) (by decide) ?_
  refine ok_wI fl_RX4_32 (Or.inl rfl) (tyX4_ok 3 (by decide)) (by decide) rfl (dd TX4_readText_0 8 rfl) ?_
  refine ok_aload_n (dd TX4_readText_0 9 rfl) 1 rfl ?_
  refine ok_iconst (v := (0 : Int32)) (dd TX4_readText_0 10 rfl) (by decide) ?_
  refine ok_wI fl_RX4_35 (Or.inl rfl) (tyX4_ok 4 (by decide)) (by decide) rfl (dd TX4_readText_0 11 rfl) ?_
  refine ok_aload_n (dd TX4_readText_0 12 rfl) 1 rfl ?_
  refine ok_bipush (v := (17 : Int32)) (dd TX4_readText_0 13 rfl) (by decide) ?_
  refine ok_wI fl_RX4_38 (Or.inl rfl) (tyX4_ok 6 (by decide)) (by decide) rfl (dd TX4_readText_0 14 rfl) ?_
  refine ok_aload_n (dd TX4_readText_0 15 rfl) 1 rfl ?_
  refine ok_callVV (cn := 4) [] [] (fun b3 => C_X4_advance Γ b3) rfl cy_X4_advance ml_RX4_41 im_X4_advance se_X4_advance (by decide) (Nat.le_of_ble_eq_true rfl) rfl (dd TX4_readText_0 16 rfl) ?_
  refine ok_iconst (v := (0 : Int32)) (dd TX4_readText_0 17 rfl) (by decide) ?_
  refine ok_istore_n (lv' := [(3, .int (0 : Int32)), (2, .int v2), (0, va_rf (some this)), (1, va_rf p0)]) (dd TX4_readText_0 18 rfl) (by decide) (by first | rfl | (simp only [List.filter, cat_rf]; rfl)) ?_
  refine ok_sub [2, 3, 1, 0] rfl ?_
  exact O_X4_readText_L32 Γ FU this p0 v2 (0 : Int32)
def F_X11_rules (this : Nat) : M Int32 := bn (gP 11 0 (some this)) fun v1 => bn (gP 11 1 (some this)) fun v2 => bn (gP 7 0 v2) fun v3 => bn (pRc 4 v1) fun b4 => bn (F_X4_readText b4 v3) fun v5 => rt v5
set_option maxRecDepth 100000 in
theorem C_X11_rules (Γ : Gam) (this : Nat) : Ct Γ mX11_rules 109 vI [va_rf (some this)] (F_X11_rules this) := by
  refine ct_in (lv := [(0, va_rf (some this))]) (by decide) (by first | rfl | (simp only [lv_args, cat_rf]; rfl)) (by first | exact Nat.le_of_ble_eq_true rfl | (rw [lg_len]; simp only [List.map_cons, List.map_nil, cat_rf]; exact Nat.le_of_ble_eq_true rfl)) ?_
  unfold F_X11_rules
  refine ok_aload_n (dd TX11_rules_0 0 rfl) 0 rfl ?_
  refine ok_gP fl_RX11_10 rfl (dd TX11_rules_0 1 rfl) (fun v1 => ?_)
  refine ok_aload_n (dd TX11_rules_0 2 rfl) 0 rfl ?_
  refine ok_gP fl_RX11_19 rfl (dd TX11_rules_0 3 rfl) (fun v2 => ?_)
  refine ok_gP fl_RX11_61 rfl (dd TX11_rules_0 4 rfl) (fun v3 => ?_)
  refine ok_callVI (cn := 4) [va_rf v3] [] (fun b4 => C_X4_readText Γ b4 v3) rfl cy_X4_readText ml_RX11_64 im_X4_readText se_X4_readText (by decide) (Nat.le_of_ble_eq_true rfl) rfl (dd TX11_rules_0 5 rfl) (fun v5 => ?_)
  exact ok_ireturn (dd TX11_rules_0 6 rfl) rfl
def F_X11_order_L90 (x5 : Int32) (x7 : Int32) : M Int32 := rt (x5 - x7)
set_option maxRecDepth 100000 in
theorem O_X11_order_L90 (Γ : Gam) (x5 : Int32) (x7 : Int32) : Ok Γ mX11_order 9 (qo Γ vI) 90 [(5, .int x5), (7, .int x7)] [] (F_X11_order_L90 x5 x7) := by
  unfold F_X11_order_L90
  refine ok_iload (dd TX11_order_1 9 rfl) 0 rfl ?_
  refine ok_iload (dd TX11_order_1 10 rfl) 1 rfl ?_
  refine ok_isub (dd TX11_order_1 11 rfl) ?_
  exact ok_ireturn (dd TX11_order_1 12 rfl) rfl
def F_X11_order (this : Nat) (p0 : Int32) (p1 : Int32) (p2 : Int32) (p3 : Int32) (p4 : Int32) : M Int32 := bn (pRc 11 (some this)) fun b1 => bn (F_X11_reasonAgainst b1 p0 p1 p2 p3 p4) fun v2 => if v2 = 0 then bn (pRc 11 (some this)) fun b3 => bn (F_X11_fill b3 p0 p1 p2 p3 p4) fun v4 => if v4 ≤ 0 then F_X11_order_L90 p4 v4 else bn (gP 11 4 (some this)) fun v5 => bn (pRc 13 v5) fun b6 => bn (F_Jx4a65c_size_8abf5 b6) fun v7 => if (700 : Int32) ≤ v7 then F_X11_order_L90 p4 v4 else bn (gP 11 2 (some this)) fun v8 => bn (lP 157 v8 p2) fun v9 => bn (newO 9 4) fun r10 => bn (gI 11 9 (some this)) fun v11 => bn (pRc 9 r10) fun b12 => bn (F_X9_init b12 p0 v4 p3 v11) fun _ => bn (pRc 2 v9) fun b13 => bn (F_X2_queue b13 p1 r10) fun _ => bn (gI 11 9 (some this)) fun v14 => bn (wI 11 9 (some this) (v14 + (1 : Int32))) fun _ => F_X11_order_L90 p4 v4 else rt ((-1 : Int32) - v2)
set_option maxRecDepth 100000 in
theorem C_X11_order (Γ : Gam) (this : Nat) (p0 : Int32) (p1 : Int32) (p2 : Int32) (p3 : Int32) (p4 : Int32) : Ct Γ mX11_order 9 vI [va_rf (some this), .int p0, .int p1, .int p2, .int p3, .int p4] (F_X11_order this p0 p1 p2 p3 p4) := by
  refine ct_in (lv := [(0, va_rf (some this)), (1, .int p0), (2, .int p1), (3, .int p2), (4, .int p3), (5, .int p4)]) (by decide) (by first | rfl | (simp only [lv_args, cat_rf]; rfl)) (by first | exact Nat.le_of_ble_eq_true rfl | (rw [lg_len]; simp only [List.map_cons, List.map_nil, cat_rf]; exact Nat.le_of_ble_eq_true rfl)) ?_
  unfold F_X11_order
  refine ok_aload_n (dd TX11_order_0 0 rfl) 0 rfl ?_
  refine ok_iload_n (dd TX11_order_0 1 rfl) 1 rfl ?_
  refine ok_iload_n (dd TX11_order_0 2 rfl) 2 rfl ?_
  refine ok_iload_n (dd TX11_order_0 3 rfl) 3 rfl ?_
  refine ok_iload (dd TX11_order_0 4 rfl) 4 rfl ?_
  refine ok_iload (dd TX11_order_0 5 rfl) 5 rfl ?_
  refine ok_callVI (cn := 11) [.int p0, .int p1, .int p2, .int p3, .int p4] [] (fun b1 => C_X11_reasonAgainst Γ b1 p0 p1 p2 p3 p4) rfl cy_X11_reasonAgainst ml_RX11_108 im_X11_reasonAgainst se_X11_reasonAgainst (by decide) (Nat.le_of_ble_eq_true rfl) rfl (dd TX11_order_0 6 rfl) (fun v2 => ?_)
  refine ok_istore (lv' := [(6, .int v2), (0, va_rf (some this)), (1, .int p0), (2, .int p1), (3, .int p2), (4, .int p3), (5, .int p4)]) (dd TX11_order_0 7 rfl) (by decide) (by first | rfl | (simp only [List.filter, cat_rf]; rfl)) ?_
  refine ok_iload (dd TX11_order_0 8 rfl) 0 rfl ?_
  refine ok_if_eq (tgt := 23) (dd TX11_order_0 9 rfl) (by decide) ?_ ?_
  · refine ok_aload_n (dd TX11_order_0 14 rfl) 1 rfl ?_
    refine ok_iload_n (dd TX11_order_0 15 rfl) 2 rfl ?_
    refine ok_iload_n (dd TX11_order_0 16 rfl) 3 rfl ?_
    refine ok_iload_n (dd TX11_order_0 17 rfl) 4 rfl ?_
    refine ok_iload (dd TX11_order_0 18 rfl) 5 rfl ?_
    refine ok_iload (dd TX11_order_0 19 rfl) 6 rfl ?_
    refine ok_callVI (cn := 11) [.int p0, .int p1, .int p2, .int p3, .int p4] [] (fun b3 => C_X11_fill Γ b3 p0 p1 p2 p3 p4) rfl cy_X11_fill ml_RX11_112 im_X11_fill se_X11_fill (by decide) (Nat.le_of_ble_eq_true rfl) rfl (dd TX11_order_0 20 rfl) (fun v4 => ?_)
    refine ok_istore (lv' := [(7, .int v4), (6, .int v2), (0, va_rf (some this)), (1, .int p0), (2, .int p1), (3, .int p2), (4, .int p3), (5, .int p4)]) (dd TX11_order_0 21 rfl) (by decide) (by first | rfl | (simp only [List.filter, cat_rf]; rfl)) ?_
    refine ok_iload (dd TX11_order_0 22 rfl) 0 rfl ?_
    refine ok_if_le (tgt := 90) (dd TX11_order_0 23 rfl) (by decide) ?_ ?_
    · refine ok_sub [7, 0] rfl ?_
      exact O_X11_order_L90 Γ p4 v4
    · refine ok_aload_n (dd TX11_order_0 24 rfl) 2 rfl ?_
      refine ok_gP fl_RX11_37 rfl (dd TX11_order_0 25 rfl) (fun v5 => ?_)
      refine ok_callVI (cn := 13) [] [] (fun b6 => C_Jx4a65c_size_8abf5 Γ b6) rfl cy_Jx4a65c_size_8abf5 ml_RX11_85 im_Jx4a65c_size_8abf5 se_Jx4a65c_size_8abf5 (by decide) (Nat.le_of_ble_eq_true rfl) rfl (dd TX11_order_0 26 rfl) (fun v7 => ?_)
      refine ok_sipush (v := (700 : Int32)) (dd TX11_order_0 27 rfl) (by decide) ?_
      refine ok_icmp_ge (tgt := 90) (dd TX11_order_0 28 rfl) (by decide) ?_ ?_
      · refine ok_sub [7, 0] rfl ?_
        exact O_X11_order_L90 Γ p4 v4
      · refine ok_aload_n (dd TX11_order_0 29 rfl) 2 rfl ?_
        refine ok_gP fl_RX11_25 rfl (dd TX11_order_0 30 rfl) (fun v8 => ?_)
        refine ok_iload_n (dd TX11_order_0 31 rfl) 5 rfl ?_
        refine ok_lP5 (kd := 157) (by decide) rfl (dd TX11_order_0 32 rfl) (fun v9 => ?_)
        refine ok_iload_n (dd TX11_order_0 33 rfl) 4 rfl ?_
        refine ok_newO cf_9 tyX9 tyX9_ok df_9 cl_RX11_115 ib_9 in_9 (dd TX11_order_0 34 rfl) (fun r10 => ?_)
        refine ok_dup (dd TX11_order_0 35 rfl) (by first | rfl | exact cat_rf _) ?_
        refine ok_iload_n (dd TX11_order_0 36 rfl) 3 rfl ?_
        refine ok_iload (dd TX11_order_0 37 rfl) 0 rfl ?_
        refine ok_iload (dd TX11_order_0 38 rfl) 6 rfl ?_
        refine ok_aload_n (dd TX11_order_0 39 rfl) 2 rfl ?_
        refine ok_gI fl_RX11_117 rfl (dd TX11_order_1 0 rfl) (fun v11 => ?_)
        refine ok_callI (cn := 9) [.int p0, .int v4, .int p3, .int v11] [va_rf r10, .int p1, va_rf v9] (fun b12 => C_X9_init Γ b12 p0 v4 p3 v11) cy_X9_init rfl rfl ml_RX11_120 im_X9_init (by decide) (Nat.le_of_ble_eq_true rfl) rfl (dd TX11_order_1 1 rfl) ?_
        refine ok_callVV (cn := 2) [.int p1, va_rf r10] [] (fun b13 => C_X2_queue Γ b13 p1 r10) rfl cy_X2_queue ml_RX11_123 im_X2_queue se_X2_queue (by decide) (Nat.le_of_ble_eq_true rfl) rfl (dd TX11_order_1 2 rfl) ?_
        refine ok_aload_n (dd TX11_order_1 3 rfl) 2 rfl ?_
        refine ok_dup (dd TX11_order_1 4 rfl) (by first | rfl | exact cat_rf _) ?_
        refine ok_gI fl_RX11_117 rfl (dd TX11_order_1 5 rfl) (fun v14 => ?_)
        refine ok_iconst (v := (1 : Int32)) (dd TX11_order_1 6 rfl) (by decide) ?_
        refine ok_iadd (dd TX11_order_1 7 rfl) ?_
        refine ok_wI fl_RX11_117 (Or.inl rfl) (tyX11_ok 9 (by decide)) (by decide) rfl (dd TX11_order_1 8 rfl) ?_
        refine ok_sub [7, 0] rfl ?_
        exact O_X11_order_L90 Γ p4 v4
  · refine ok_iconst (v := (-1 : Int32)) (dd TX11_order_0 10 rfl) (by decide) ?_
    refine ok_iload (dd TX11_order_0 11 rfl) 0 rfl ?_
    refine ok_isub (dd TX11_order_0 12 rfl) ?_
    exact ok_ireturn (dd TX11_order_0 13 rfl) rfl
