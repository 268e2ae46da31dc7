def GS (Γ : Gam) (b L : Nat) (xs : Nat → Int32) : Prop := ∀ U, gE Γ U → va_X b L xs U U.heap ∧ b < U.heap.size ∧ ¬ gB Γ ≤ b
def sLd (L : Nat) (xs : Nat → Int32) (i : Int32) : M Int32 := fun μ => if ¬ (i < 0 ∨ L ≤ i.toNatClampNeg) then some (xs i.toNatClampNeg, μ) else none
theorem ok_sld {α : Type} {Γ : Gam} {y : Mth} {d : Nat} {rv : Rv α} {pc : Nat} {lv : List (Nat × Value)} {st : List Value} {F : Int32 → M α} {b L : Nat} {xs : Nat → Int32} {i : Int32} (hG : GS Γ b L xs) (hd : decode y.2.1 pc = .ok (.iaload, 1)) (kk : ∀ x : Int32, Ok Γ y d rv (pc + 1) lv (.int x :: st) (F x)) : Ok Γ y d rv pc lv (.int i :: va_rf (some b) :: st) (bn (sLd L xs i) F) := by
  intro μ w μ' h
  obtain ⟨u, μ1, h1, h2⟩ := bn_some h
  unfold sLd at h1
  by_cases hin : ¬ (i < 0 ∨ L ≤ i.toNatClampNeg)
  case neg => rw [if_neg hin] at h1; cases h1
  rw [if_pos hin] at h1
  cases h1
  refine ⟨(kk _ μ w μ' h2).1, ?_⟩
  intro p e s m args below meth c x0 s0 H locs ls hc g1 g2 hS hD hl
  obtain ⟨hX, hb1, hb2⟩ := hG s hc.2.2.2.2.2.2.2.2.1.2.2.2.2.2.2.2
  exact va_sld hc.1 hc.2.1 hX hb1 hb2 hS hin hd ((kk _ μ w μ' h2).2 p e s m args below meth c x0 s0 H locs ls hc g1 g2 hS hD hl)
theorem ok_sln {α : Type} {Γ : Gam} {y : Mth} {d : Nat} {rv : Rv α} {pc : Nat} {lv : List (Nat × Value)} {st : List Value} {F : M α} {b L : Nat} {xs : Nat → Int32} (hG : GS Γ b L xs) (hd : decode y.2.1 pc = .ok (.arraylength, 1)) (kk : Ok Γ y d rv (pc + 1) lv (.int (Int32.ofNat L) :: st) F) : Ok Γ y d rv pc lv (va_rf (some b) :: st) F := by
  intro μ w μ' h
  refine ⟨(kk μ w μ' h).1, ?_⟩
  intro p e s m args below meth c x0 s0 H locs ls hc g1 g2 hS hD hl
  obtain ⟨hX, hb1, hb2⟩ := hG s hc.2.2.2.2.2.2.2.2.1.2.2.2.2.2.2.2
  exact va_slen hc.1 hc.2.1 hX hb1 hb2 hS hd ((kk μ w μ' h).2 p e s m args below meth c x0 s0 H locs ls hc g1 g2 hS hD hl)
def CYH (yc : Mth) (n : Nat) (hh : List (Nat × Nat × Nat × Nat)) : Prop := Cond.codeWith yc.1 yc.2.1 yc.2.2.1 yc.2.2.2 hh ∈ lw_g ∧ Cond.initialized yc.1.cls ∈ lw_g ∧ (yc.1.cls ≠ "java/lang/invoke/MethodHandle" ∧ yc.1.cls ≠ "java/lang/invoke/VarHandle" ∧ (parseMethodDescriptor yc.1.desc).map (fun d => d.parameters.length) = some n) ∧ yc.2.2.1 ≤ 40
theorem ok_callSH {α : Type} {Γ : Gam} {y : Mth} {d : Nat} {rv : Rv α} {pc : Nat} {lv : List (Nat × Value)} {st : List Value} {F : Int32 → M α} {G : M Int32} {yc : Mth} {dc : Nat} {idx : Nat} {hh : List (Nat × Nat × Nat × Nat)} (As rest : List Value) (hC : CtH Γ yc dc vI As G) (hy : CYH yc As.length hh)
    (w1 : Cond.methodLink y.1.cls idx yc.1 ∈ lw_g) (w2 : Cond.static yc.1 ∈ lw_g) (hdep : dc + 1 ≤ d) (hrest : rest.length ≤ 4) (hst : st = As.reverse ++ rest) (hd : decode y.2.1 pc = .ok (.invokestatic idx, 3)) (kk : ∀ x : Int32, Ok Γ y d rv (pc + 3) lv (.int x :: rest) (F x)) : Ok Γ y d rv pc lv st (bn G F) := by
  subst hst
  intro μ w μ' h
  obtain ⟨x, μ1, h3, h4⟩ := bn_some h
  have hk := kk x μ1 w μ' h4
  have hg := hC μ x μ1 h3
  refine ⟨⟨Nat.le_trans hg.1.1 hk.1.1, Nat.le_trans hg.1.2 hk.1.2⟩, ?_⟩
  intro p e s m args below meth c x0 s0 H locs ls hc g1 g2 hS hD hl
  have hM := hg.2 hc.2.2.2.2.2.2.2.2.2.1 hh hy.1
  have hsum := cat_sum rest
  have h40 := hy.2.2.2
  have hgood : GoodIn lw_g (va_wsS y.1.cls idx yc.1 (Cond.codeWith yc.1 yc.2.1 yc.2.2.1 yc.2.2.2 hh :: lw_g)) := fun z hz => by
    have hzg : z ∈ lw_g := by
      rcases List.mem_append.mp hz with hz | hz
      · rcases List.mem_cons.mp hz with rfl | hz
        · exact w1
        rcases List.mem_cons.mp hz with rfl | hz
        · exact w2
        rcases List.mem_cons.mp hz with rfl | hz
        · exact hy.2.1
        cases hz
      · rcases List.mem_cons.mp hz with rfl | hz
        · exact hy.1
        · exact hz
    exact ⟨hzg, good_of_word (lw_g_good _ hzg)⟩
  refine w_back (a := As.toArray) (vx_runSW (As := As) (rest := rest) ⟨hc.1, hc.2.1, hc.2.2.2.1, hc.2.2.2.2.1, hc.2.2.2.2.2.1⟩ hM (vx_cwSW As.length hc.2.2.2.2.2.1 hgood rfl rfl rfl hy.2.2.1 ⟨hdep, by show 8 + (yc.2.2.1 + 11) + 64 * dc ≤ 64 * d; omega⟩) ⟨pc_blind hc.2.2.2.2.2.2.2.2.2.1 _ _, fun U hU hW => pc_at hc hS hD hU hW⟩ rfl rfl hl.1 rfl (by show 2 * 0 + _ ≤ 8; omega) hd ⟨by show _ ≤ mX μ' - x0; omega, by show _ ≤ mS μ' - s0; omega⟩) hS g1 g2 hg.1 ?_
  intro H' locs' hS' hD'
  exact hk.2 p e s m args below meth c x0 s0 H' locs' ls hc (by omega) (by omega) hS' hD' hl
abbrev mL_law : Mth := (yL_law, cL_law, 8, (some .boolean : Option FieldType))
theorem ib_11 : Cond.instantiable RX11 11 ∈ lw_g := gin 119 (by decide +kernel) rfl
theorem in_11 : Cond.initialized RX11 ∈ lw_g := gin 88 (by decide +kernel) rfl
theorem df_11 : ∀ k, k < 11 → defaultValue (tyX11 k) = dvf 11 k := fun k hk => df_all (N := 11) (by decide) k hk
theorem cl_RL_8 : Cond.classLink RL 8 RX11 ∈ lw_g := gin 118 (by decide +kernel) rfl
theorem cy_X11_init : CY mX11_init 0 := ⟨gin 122 (by decide +kernel) rfl, gin 88 (by decide +kernel) rfl, by decide +kernel, by decide⟩
theorem ml_RL_30 : Cond.methodLink RL 30 yX11_init ∈ lw_g := gin 120 (by decide +kernel) rfl
theorem im_X11_init : Cond.instanceMethod yX11_init ∈ lw_g := gin 121 (by decide +kernel) rfl
theorem ib_12 : Cond.instantiable RX12 48 ∈ lw_g := gin 1197 (by decide +kernel) rfl
theorem in_12 : Cond.initialized RX12 ∈ lw_g := gin 95 (by decide +kernel) rfl
theorem df_12 : ∀ k, k < 48 → defaultValue (tyX12 k) = dvf 12 k := fun k hk => df_all (N := 48) (by decide) k hk
theorem cl_RL_31 : Cond.classLink RL 31 RX12 ∈ lw_g := gin 1196 (by decide +kernel) rfl
theorem cy_X12_init : CY mX12_init 0 := ⟨gin 1200 (by decide +kernel) rfl, gin 95 (by decide +kernel) rfl, by decide +kernel, by decide⟩
theorem ml_RL_33 : Cond.methodLink RL 33 yX12_init ∈ lw_g := gin 1198 (by decide +kernel) rfl
theorem im_X12_init : Cond.instanceMethod yX12_init ∈ lw_g := gin 1199 (by decide +kernel) rfl
theorem cy_X11_feed : CY mX11_feed 5 := ⟨gin 281 (by decide +kernel) rfl, gin 88 (by decide +kernel) rfl, by decide +kernel, by decide⟩
theorem ml_RL_34 : Cond.methodLink RL 34 yX11_feed ∈ lw_g := gin 278 (by decide +kernel) rfl
theorem im_X11_feed : Cond.instanceMethod yX11_feed ∈ lw_g := gin 279 (by decide +kernel) rfl
theorem se_X11_feed : Cond.selects RX11 yX11_feed yX11_feed ∈ lw_g := gin 280 (by decide +kernel) rfl
theorem cy_X12_feed : CY mX12_feed 5 := ⟨gin 1355 (by decide +kernel) rfl, gin 95 (by decide +kernel) rfl, by decide +kernel, by decide⟩
theorem ml_RL_38 : Cond.methodLink RL 38 yX12_feed ∈ lw_g := gin 1352 (by decide +kernel) rfl
theorem im_X12_feed : Cond.instanceMethod yX12_feed ∈ lw_g := gin 1353 (by decide +kernel) rfl
theorem se_X12_feed : Cond.selects RX12 yX12_feed yX12_feed ∈ lw_g := gin 1354 (by decide +kernel) rfl
theorem cy_X11_end : CY mX11_end 1 := ⟨gin 293 (by decide +kernel) rfl, gin 88 (by decide +kernel) rfl, by decide +kernel, by decide⟩
theorem ml_RL_39 : Cond.methodLink RL 39 yX11_end ∈ lw_g := gin 290 (by decide +kernel) rfl
theorem im_X11_end : Cond.instanceMethod yX11_end ∈ lw_g := gin 291 (by decide +kernel) rfl
theorem se_X11_end : Cond.selects RX11 yX11_end yX11_end ∈ lw_g := gin 292 (by decide +kernel) rfl
theorem cy_X12_end : CY mX12_end 1 := ⟨gin 1363 (by decide +kernel) rfl, gin 95 (by decide +kernel) rfl, by decide +kernel, by decide⟩
theorem ml_RL_43 : Cond.methodLink RL 43 yX12_end ∈ lw_g := gin 1360 (by decide +kernel) rfl
theorem im_X12_end : Cond.instanceMethod yX12_end ∈ lw_g := gin 1361 (by decide +kernel) rfl
theorem se_X12_end : Cond.selects RX12 yX12_end yX12_end ∈ lw_g := gin 1362 (by decide +kernel) rfl
theorem cy_X11_rules : CY mX11_rules 0 := ⟨gin 297 (by decide +kernel) rfl, gin 88 (by decide +kernel) rfl, by decide +kernel, by decide⟩
theorem ml_RL_44 : Cond.methodLink RL 44 yX11_rules ∈ lw_g := gin 294 (by decide +kernel) rfl
theorem im_X11_rules : Cond.instanceMethod yX11_rules ∈ lw_g := gin 295 (by decide +kernel) rfl
theorem se_X11_rules : Cond.selects RX11 yX11_rules yX11_rules ∈ lw_g := gin 296 (by decide +kernel) rfl
theorem cy_X12_rules : CY mX12_rules 0 := ⟨gin 1367 (by decide +kernel) rfl, gin 95 (by decide +kernel) rfl, by decide +kernel, by decide⟩
theorem ml_RL_48 : Cond.methodLink RL 48 yX12_rules ∈ lw_g := gin 1364 (by decide +kernel) rfl
theorem im_X12_rules : Cond.instanceMethod yX12_rules ∈ lw_g := gin 1365 (by decide +kernel) rfl
theorem se_X12_rules : Cond.selects RX12 yX12_rules yX12_rules ∈ lw_g := gin 1366 (by decide +kernel) rfl
theorem cy_X11_fault : CY mX11_fault 1 := ⟨gin 584 (by decide +kernel) rfl, gin 88 (by decide +kernel) rfl, by decide +kernel, by decide⟩
theorem ml_RL_49 : Cond.methodLink RL 49 yX11_fault ∈ lw_g := gin 581 (by decide +kernel) rfl
theorem im_X11_fault : Cond.instanceMethod yX11_fault ∈ lw_g := gin 582 (by decide +kernel) rfl
theorem se_X11_fault : Cond.selects RX11 yX11_fault yX11_fault ∈ lw_g := gin 583 (by decide +kernel) rfl
theorem cy_X12_fault : CY mX12_fault 1 := ⟨gin 1432 (by decide +kernel) rfl, gin 95 (by decide +kernel) rfl, by decide +kernel, by decide⟩
theorem ml_RL_53 : Cond.methodLink RL 53 yX12_fault ∈ lw_g := gin 1429 (by decide +kernel) rfl
theorem im_X12_fault : Cond.instanceMethod yX12_fault ∈ lw_g := gin 1430 (by decide +kernel) rfl
theorem se_X12_fault : Cond.selects RX12 yX12_fault yX12_fault ∈ lw_g := gin 1431 (by decide +kernel) rfl
theorem sm_L_rule : Cond.static yL_rule ∈ lw_g := gin 1086 (by decide +kernel) rfl
theorem ch_L_rule : CYH mL_rule 9 [(0, 20, 23, 13)] := ⟨cw_L_rule, gin 87 (by decide +kernel) rfl, by decide +kernel, by decide⟩
theorem ml_RL_54 : Cond.methodLink RL 54 yL_rule ∈ lw_g := gin 1085 (by decide +kernel) rfl
theorem cy_X12_rule : CY mX12_rule 7 := ⟨gin 1436 (by decide +kernel) rfl, gin 95 (by decide +kernel) rfl, by decide +kernel, by decide⟩
theorem ml_RL_59 : Cond.methodLink RL 59 yX12_rule ∈ lw_g := gin 1433 (by decide +kernel) rfl
theorem im_X12_rule : Cond.instanceMethod yX12_rule ∈ lw_g := gin 1434 (by decide +kernel) rfl
theorem se_X12_rule : Cond.selects RX12 yX12_rule yX12_rule ∈ lw_g := gin 1435 (by decide +kernel) rfl
theorem cy_X12_thrown : CY mX12_thrown 0 := ⟨gin 1351 (by decide +kernel) rfl, gin 95 (by decide +kernel) rfl, by decide +kernel, by decide⟩
theorem ml_RL_60 : Cond.methodLink RL 60 yX12_thrown ∈ lw_g := gin 1348 (by decide +kernel) rfl
theorem im_X12_thrown : Cond.instanceMethod yX12_thrown ∈ lw_g := gin 1349 (by decide +kernel) rfl
theorem se_X12_thrown : Cond.selects RX12 yX12_thrown yX12_thrown ∈ lw_g := gin 1350 (by decide +kernel) rfl
theorem cy_X11_member : CY mX11_member 0 := ⟨gin 588 (by decide +kernel) rfl, gin 88 (by decide +kernel) rfl, by decide +kernel, by decide⟩
theorem ml_RL_63 : Cond.methodLink RL 63 yX11_member ∈ lw_g := gin 585 (by decide +kernel) rfl
theorem im_X11_member : Cond.instanceMethod yX11_member ∈ lw_g := gin 586 (by decide +kernel) rfl
theorem se_X11_member : Cond.selects RX11 yX11_member yX11_member ∈ lw_g := gin 587 (by decide +kernel) rfl
theorem cy_X12_member : CY mX12_member 0 := ⟨gin 1545 (by decide +kernel) rfl, gin 95 (by decide +kernel) rfl, by decide +kernel, by decide⟩
theorem ml_RL_66 : Cond.methodLink RL 66 yX12_member ∈ lw_g := gin 1542 (by decide +kernel) rfl
theorem im_X12_member : Cond.instanceMethod yX12_member ∈ lw_g := gin 1543 (by decide +kernel) rfl
theorem se_X12_member : Cond.selects RX12 yX12_member yX12_member ∈ lw_g := gin 1544 (by decide +kernel) rfl
theorem sm_L_pay : Cond.static yL_pay ∈ lw_g := gin 1159 (by decide +kernel) rfl
theorem ch_L_pay : CYH mL_pay 4 [(0, 9, 12, 13)] := ⟨cw_L_pay, gin 87 (by decide +kernel) rfl, by decide +kernel, by decide⟩
theorem ml_RL_67 : Cond.methodLink RL 67 yL_pay ∈ lw_g := gin 1158 (by decide +kernel) rfl
theorem cy_X12_pay : CY mX12_pay 2 := ⟨gin 1549 (by decide +kernel) rfl, gin 95 (by decide +kernel) rfl, by decide +kernel, by decide⟩
theorem ml_RL_70 : Cond.methodLink RL 70 yX12_pay ∈ lw_g := gin 1546 (by decide +kernel) rfl
theorem im_X12_pay : Cond.instanceMethod yX12_pay ∈ lw_g := gin 1547 (by decide +kernel) rfl
theorem se_X12_pay : Cond.selects RX12 yX12_pay yX12_pay ∈ lw_g := gin 1548 (by decide +kernel) rfl
theorem cy_X11_cancel : CY mX11_cancel 2 := ⟨gin 804 (by decide +kernel) rfl, gin 88 (by decide +kernel) rfl, by decide +kernel, by decide⟩
theorem ml_RL_76 : Cond.methodLink RL 76 yX11_cancel ∈ lw_g := gin 801 (by decide +kernel) rfl
theorem im_X11_cancel : Cond.instanceMethod yX11_cancel ∈ lw_g := gin 802 (by decide +kernel) rfl
theorem se_X11_cancel : Cond.selects RX11 yX11_cancel yX11_cancel ∈ lw_g := gin 803 (by decide +kernel) rfl
theorem cy_X12_cancel : CY mX12_cancel 2 := ⟨gin 1511 (by decide +kernel) rfl, gin 95 (by decide +kernel) rfl, by decide +kernel, by decide⟩
theorem ml_RL_79 : Cond.methodLink RL 79 yX12_cancel ∈ lw_g := gin 1508 (by decide +kernel) rfl
theorem im_X12_cancel : Cond.instanceMethod yX12_cancel ∈ lw_g := gin 1509 (by decide +kernel) rfl
theorem se_X12_cancel : Cond.selects RX12 yX12_cancel yX12_cancel ∈ lw_g := gin 1510 (by decide +kernel) rfl
theorem cy_X11_trade : CY mX11_trade 2 := ⟨gin 822 (by decide +kernel) rfl, gin 88 (by decide +kernel) rfl, by decide +kernel, by decide⟩
theorem ml_RL_85 : Cond.methodLink RL 85 yX11_trade ∈ lw_g := gin 819 (by decide +kernel) rfl
theorem im_X11_trade : Cond.instanceMethod yX11_trade ∈ lw_g := gin 820 (by decide +kernel) rfl
theorem se_X11_trade : Cond.selects RX11 yX11_trade yX11_trade ∈ lw_g := gin 821 (by decide +kernel) rfl
theorem cy_X12_trade : CY mX12_trade 2 := ⟨gin 1520 (by decide +kernel) rfl, gin 95 (by decide +kernel) rfl, by decide +kernel, by decide⟩
theorem ml_RL_88 : Cond.methodLink RL 88 yX12_trade ∈ lw_g := gin 1517 (by decide +kernel) rfl
theorem im_X12_trade : Cond.instanceMethod yX12_trade ∈ lw_g := gin 1518 (by decide +kernel) rfl
theorem se_X12_trade : Cond.selects RX12 yX12_trade yX12_trade ∈ lw_g := gin 1519 (by decide +kernel) rfl
theorem cy_X11_strike : CY mX11_strike 1 := ⟨gin 830 (by decide +kernel) rfl, gin 88 (by decide +kernel) rfl, by decide +kernel, by decide⟩
theorem ml_RL_89 : Cond.methodLink RL 89 yX11_strike ∈ lw_g := gin 827 (by decide +kernel) rfl
theorem im_X11_strike : Cond.instanceMethod yX11_strike ∈ lw_g := gin 828 (by decide +kernel) rfl
theorem se_X11_strike : Cond.selects RX11 yX11_strike yX11_strike ∈ lw_g := gin 829 (by decide +kernel) rfl
theorem cy_X12_strike : CY mX12_strike 1 := ⟨gin 1525 (by decide +kernel) rfl, gin 95 (by decide +kernel) rfl, by decide +kernel, by decide⟩
theorem ml_RL_92 : Cond.methodLink RL 92 yX12_strike ∈ lw_g := gin 1522 (by decide +kernel) rfl
theorem im_X12_strike : Cond.instanceMethod yX12_strike ∈ lw_g := gin 1523 (by decide +kernel) rfl
theorem se_X12_strike : Cond.selects RX12 yX12_strike yX12_strike ∈ lw_g := gin 1524 (by decide +kernel) rfl
theorem cy_X11_night : CY mX11_night 0 := ⟨gin 838 (by decide +kernel) rfl, gin 88 (by decide +kernel) rfl, by decide +kernel, by decide⟩
theorem ml_RL_93 : Cond.methodLink RL 93 yX11_night ∈ lw_g := gin 835 (by decide +kernel) rfl
theorem im_X11_night : Cond.instanceMethod yX11_night ∈ lw_g := gin 836 (by decide +kernel) rfl
theorem se_X11_night : Cond.selects RX11 yX11_night yX11_night ∈ lw_g := gin 837 (by decide +kernel) rfl
theorem cy_X12_night : CY mX12_night 0 := ⟨gin 1529 (by decide +kernel) rfl, gin 95 (by decide +kernel) rfl, by decide +kernel, by decide⟩
theorem ml_RL_96 : Cond.methodLink RL 96 yX12_night ∈ lw_g := gin 1526 (by decide +kernel) rfl
theorem im_X12_night : Cond.instanceMethod yX12_night ∈ lw_g := gin 1527 (by decide +kernel) rfl
theorem se_X12_night : Cond.selects RX12 yX12_night yX12_night ∈ lw_g := gin 1528 (by decide +kernel) rfl
theorem sm_L_money : Cond.static yL_money ∈ lw_g := gin 1169 (by decide +kernel) rfl
theorem ch_L_money : CYH mL_money 4 [(0, 9, 12, 13)] := ⟨cw_L_money, gin 87 (by decide +kernel) rfl, by decide +kernel, by decide⟩
theorem ml_RL_97 : Cond.methodLink RL 97 yL_money ∈ lw_g := gin 1168 (by decide +kernel) rfl
theorem cy_X12_money : CY mX12_money 2 := ⟨gin 1555 (by decide +kernel) rfl, gin 95 (by decide +kernel) rfl, by decide +kernel, by decide⟩
theorem ml_RL_99 : Cond.methodLink RL 99 yX12_money ∈ lw_g := gin 1552 (by decide +kernel) rfl
theorem im_X12_money : Cond.instanceMethod yX12_money ∈ lw_g := gin 1553 (by decide +kernel) rfl
theorem se_X12_money : Cond.selects RX12 yX12_money yX12_money ∈ lw_g := gin 1554 (by decide +kernel) rfl
theorem sm_L_position : Cond.static yL_position ∈ lw_g := gin 1181 (by decide +kernel) rfl
theorem ch_L_position : CYH mL_position 4 [(0, 10, 13, 13)] := ⟨cw_L_position, gin 87 (by decide +kernel) rfl, by decide +kernel, by decide⟩
theorem ml_RL_100 : Cond.methodLink RL 100 yL_position ∈ lw_g := gin 1180 (by decide +kernel) rfl
theorem cy_X12_position : CY mX12_position 2 := ⟨gin 1563 (by decide +kernel) rfl, gin 95 (by decide +kernel) rfl, by decide +kernel, by decide⟩
theorem ml_RL_102 : Cond.methodLink RL 102 yX12_position ∈ lw_g := gin 1560 (by decide +kernel) rfl
theorem im_X12_position : Cond.instanceMethod yX12_position ∈ lw_g := gin 1561 (by decide +kernel) rfl
theorem se_X12_position : Cond.selects RX12 yX12_position yX12_position ∈ lw_g := gin 1562 (by decide +kernel) rfl
theorem cy_X11_longOf : CY mX11_longOf 3 := ⟨gin 919 (by decide +kernel) rfl, gin 88 (by decide +kernel) rfl, by decide +kernel, by decide⟩
theorem ml_RL_103 : Cond.methodLink RL 103 yX11_longOf ∈ lw_g := gin 916 (by decide +kernel) rfl
theorem im_X11_longOf : Cond.instanceMethod yX11_longOf ∈ lw_g := gin 917 (by decide +kernel) rfl
theorem se_X11_longOf : Cond.selects RX11 yX11_longOf yX11_longOf ∈ lw_g := gin 918 (by decide +kernel) rfl
theorem cy_X12_longOf : CY mX12_longOf 3 := ⟨gin 1567 (by decide +kernel) rfl, gin 95 (by decide +kernel) rfl, by decide +kernel, by decide⟩
theorem ml_RL_107 : Cond.methodLink RL 107 yX12_longOf ∈ lw_g := gin 1564 (by decide +kernel) rfl
theorem im_X12_longOf : Cond.instanceMethod yX12_longOf ∈ lw_g := gin 1565 (by decide +kernel) rfl
theorem se_X12_longOf : Cond.selects RX12 yX12_longOf yX12_longOf ∈ lw_g := gin 1566 (by decide +kernel) rfl
theorem cy_X11_count : CY mX11_count 1 := ⟨gin 923 (by decide +kernel) rfl, gin 88 (by decide +kernel) rfl, by decide +kernel, by decide⟩
theorem ml_RL_108 : Cond.methodLink RL 108 yX11_count ∈ lw_g := gin 920 (by decide +kernel) rfl
theorem im_X11_count : Cond.instanceMethod yX11_count ∈ lw_g := gin 921 (by decide +kernel) rfl
theorem se_X11_count : Cond.selects RX11 yX11_count yX11_count ∈ lw_g := gin 922 (by decide +kernel) rfl
theorem cy_X12_count : CY mX12_count 1 := ⟨gin 1571 (by decide +kernel) rfl, gin 95 (by decide +kernel) rfl, by decide +kernel, by decide⟩
theorem ml_RL_111 : Cond.methodLink RL 111 yX12_count ∈ lw_g := gin 1568 (by decide +kernel) rfl
theorem im_X12_count : Cond.instanceMethod yX12_count ∈ lw_g := gin 1569 (by decide +kernel) rfl
theorem se_X12_count : Cond.selects RX12 yX12_count yX12_count ∈ lw_g := gin 1570 (by decide +kernel) rfl
theorem cy_X11_deliver : CY mX11_deliver 1 := ⟨gin 932 (by decide +kernel) rfl, gin 88 (by decide +kernel) rfl, by decide +kernel, by decide⟩
theorem ml_RL_112 : Cond.methodLink RL 112 yX11_deliver ∈ lw_g := gin 929 (by decide +kernel) rfl
theorem im_X11_deliver : Cond.instanceMethod yX11_deliver ∈ lw_g := gin 930 (by decide +kernel) rfl
theorem se_X11_deliver : Cond.selects RX11 yX11_deliver yX11_deliver ∈ lw_g := gin 931 (by decide +kernel) rfl
theorem cy_X12_deliver : CY mX12_deliver 1 := ⟨gin 1575 (by decide +kernel) rfl, gin 95 (by decide +kernel) rfl, by decide +kernel, by decide⟩
theorem ml_RL_115 : Cond.methodLink RL 115 yX12_deliver ∈ lw_g := gin 1572 (by decide +kernel) rfl
theorem im_X12_deliver : Cond.instanceMethod yX12_deliver ∈ lw_g := gin 1573 (by decide +kernel) rfl
theorem se_X12_deliver : Cond.selects RX12 yX12_deliver yX12_deliver ∈ lw_g := gin 1574 (by decide +kernel) rfl
theorem cy_X11_receipt : CY mX11_receipt 3 := ⟨gin 936 (by decide +kernel) rfl, gin 88 (by decide +kernel) rfl, by decide +kernel, by decide⟩
theorem ml_RL_116 : Cond.methodLink RL 116 yX11_receipt ∈ lw_g := gin 933 (by decide +kernel) rfl
theorem im_X11_receipt : Cond.instanceMethod yX11_receipt ∈ lw_g := gin 934 (by decide +kernel) rfl
theorem se_X11_receipt : Cond.selects RX11 yX11_receipt yX11_receipt ∈ lw_g := gin 935 (by decide +kernel) rfl
theorem cy_X12_receipt : CY mX12_receipt 3 := ⟨gin 1579 (by decide +kernel) rfl, gin 95 (by decide +kernel) rfl, by decide +kernel, by decide⟩
theorem ml_RL_119 : Cond.methodLink RL 119 yX12_receipt ∈ lw_g := gin 1576 (by decide +kernel) rfl
theorem im_X12_receipt : Cond.instanceMethod yX12_receipt ∈ lw_g := gin 1577 (by decide +kernel) rfl
theorem se_X12_receipt : Cond.selects RX12 yX12_receipt yX12_receipt ∈ lw_g := gin 1578 (by decide +kernel) rfl
theorem cy_X11_notice : CY mX11_notice 3 := ⟨gin 963 (by decide +kernel) rfl, gin 88 (by decide +kernel) rfl, by decide +kernel, by decide⟩
theorem ml_RL_120 : Cond.methodLink RL 120 yX11_notice ∈ lw_g := gin 960 (by decide +kernel) rfl
theorem im_X11_notice : Cond.instanceMethod yX11_notice ∈ lw_g := gin 961 (by decide +kernel) rfl
theorem se_X11_notice : Cond.selects RX11 yX11_notice yX11_notice ∈ lw_g := gin 962 (by decide +kernel) rfl
theorem cy_X12_notice : CY mX12_notice 3 := ⟨gin 1584 (by decide +kernel) rfl, gin 95 (by decide +kernel) rfl, by decide +kernel, by decide⟩
theorem ml_RL_123 : Cond.methodLink RL 123 yX12_notice ∈ lw_g := gin 1581 (by decide +kernel) rfl
theorem im_X12_notice : Cond.instanceMethod yX12_notice ∈ lw_g := gin 1582 (by decide +kernel) rfl
theorem se_X12_notice : Cond.selects RX12 yX12_notice yX12_notice ∈ lw_g := gin 1583 (by decide +kernel) rfl
theorem cy_X11_pass : CY mX11_pass 1 := ⟨gin 1008 (by decide +kernel) rfl, gin 88 (by decide +kernel) rfl, by decide +kernel, by decide⟩
theorem ml_RL_124 : Cond.methodLink RL 124 yX11_pass ∈ lw_g := gin 1005 (by decide +kernel) rfl
theorem im_X11_pass : Cond.instanceMethod yX11_pass ∈ lw_g := gin 1006 (by decide +kernel) rfl
theorem se_X11_pass : Cond.selects RX11 yX11_pass yX11_pass ∈ lw_g := gin 1007 (by decide +kernel) rfl
theorem cy_X12_pass : CY mX12_pass 1 := ⟨gin 1588 (by decide +kernel) rfl, gin 95 (by decide +kernel) rfl, by decide +kernel, by decide⟩
theorem ml_RL_127 : Cond.methodLink RL 127 yX12_pass ∈ lw_g := gin 1585 (by decide +kernel) rfl
theorem im_X12_pass : Cond.instanceMethod yX12_pass ∈ lw_g := gin 1586 (by decide +kernel) rfl
theorem se_X12_pass : Cond.selects RX12 yX12_pass yX12_pass ∈ lw_g := gin 1587 (by decide +kernel) rfl
theorem cy_X11_keep : CY mX11_keep 1 := ⟨gin 1036 (by decide +kernel) rfl, gin 88 (by decide +kernel) rfl, by decide +kernel, by decide⟩
theorem ml_RL_128 : Cond.methodLink RL 128 yX11_keep ∈ lw_g := gin 1033 (by decide +kernel) rfl
theorem im_X11_keep : Cond.instanceMethod yX11_keep ∈ lw_g := gin 1034 (by decide +kernel) rfl
theorem se_X11_keep : Cond.selects RX11 yX11_keep yX11_keep ∈ lw_g := gin 1035 (by decide +kernel) rfl
theorem cy_X12_keep : CY mX12_keep 1 := ⟨gin 1596 (by decide +kernel) rfl, gin 95 (by decide +kernel) rfl, by decide +kernel, by decide⟩
theorem ml_RL_131 : Cond.methodLink RL 131 yX12_keep ∈ lw_g := gin 1593 (by decide +kernel) rfl
theorem im_X12_keep : Cond.instanceMethod yX12_keep ∈ lw_g := gin 1594 (by decide +kernel) rfl
theorem se_X12_keep : Cond.selects RX12 yX12_keep yX12_keep ∈ lw_g := gin 1595 (by decide +kernel) rfl
theorem cy_X11_told : CY mX11_told 2 := ⟨gin 1040 (by decide +kernel) rfl, gin 88 (by decide +kernel) rfl, by decide +kernel, by decide⟩
theorem ml_RL_132 : Cond.methodLink RL 132 yX11_told ∈ lw_g := gin 1037 (by decide +kernel) rfl
theorem im_X11_told : Cond.instanceMethod yX11_told ∈ lw_g := gin 1038 (by decide +kernel) rfl
theorem se_X11_told : Cond.selects RX11 yX11_told yX11_told ∈ lw_g := gin 1039 (by decide +kernel) rfl
theorem cy_X12_told : CY mX12_told 2 := ⟨gin 1600 (by decide +kernel) rfl, gin 95 (by decide +kernel) rfl, by decide +kernel, by decide⟩
theorem ml_RL_135 : Cond.methodLink RL 135 yX12_told ∈ lw_g := gin 1597 (by decide +kernel) rfl
theorem im_X12_told : Cond.instanceMethod yX12_told ∈ lw_g := gin 1598 (by decide +kernel) rfl
theorem se_X12_told : Cond.selects RX12 yX12_told yX12_told ∈ lw_g := gin 1599 (by decide +kernel) rfl
theorem cy_X11_stored : CY mX11_stored 2 := ⟨gin 1044 (by decide +kernel) rfl, gin 88 (by decide +kernel) rfl, by decide +kernel, by decide⟩
theorem ml_RL_136 : Cond.methodLink RL 136 yX11_stored ∈ lw_g := gin 1041 (by decide +kernel) rfl
theorem im_X11_stored : Cond.instanceMethod yX11_stored ∈ lw_g := gin 1042 (by decide +kernel) rfl
theorem se_X11_stored : Cond.selects RX11 yX11_stored yX11_stored ∈ lw_g := gin 1043 (by decide +kernel) rfl
theorem cy_X12_stored : CY mX12_stored 2 := ⟨gin 1604 (by decide +kernel) rfl, gin 95 (by decide +kernel) rfl, by decide +kernel, by decide⟩
theorem ml_RL_139 : Cond.methodLink RL 139 yX12_stored ∈ lw_g := gin 1601 (by decide +kernel) rfl
theorem im_X12_stored : Cond.instanceMethod yX12_stored ∈ lw_g := gin 1602 (by decide +kernel) rfl
theorem se_X12_stored : Cond.selects RX12 yX12_stored yX12_stored ∈ lw_g := gin 1603 (by decide +kernel) rfl
theorem cy_X11_squeeze : CY mX11_squeeze 2 := ⟨gin 1048 (by decide +kernel) rfl, gin 88 (by decide +kernel) rfl, by decide +kernel, by decide⟩
theorem ml_RL_140 : Cond.methodLink RL 140 yX11_squeeze ∈ lw_g := gin 1045 (by decide +kernel) rfl
theorem im_X11_squeeze : Cond.instanceMethod yX11_squeeze ∈ lw_g := gin 1046 (by decide +kernel) rfl
theorem se_X11_squeeze : Cond.selects RX11 yX11_squeeze yX11_squeeze ∈ lw_g := gin 1047 (by decide +kernel) rfl
theorem cy_X12_squeeze : CY mX12_squeeze 2 := ⟨gin 1608 (by decide +kernel) rfl, gin 95 (by decide +kernel) rfl, by decide +kernel, by decide⟩
theorem ml_RL_143 : Cond.methodLink RL 143 yX12_squeeze ∈ lw_g := gin 1605 (by decide +kernel) rfl
theorem im_X12_squeeze : Cond.instanceMethod yX12_squeeze ∈ lw_g := gin 1606 (by decide +kernel) rfl
theorem se_X12_squeeze : Cond.selects RX12 yX12_squeeze yX12_squeeze ∈ lw_g := gin 1607 (by decide +kernel) rfl
theorem cy_X11_right : CY mX11_right 3 := ⟨gin 1068 (by decide +kernel) rfl, gin 88 (by decide +kernel) rfl, by decide +kernel, by decide⟩
theorem ml_RL_144 : Cond.methodLink RL 144 yX11_right ∈ lw_g := gin 1065 (by decide +kernel) rfl
theorem im_X11_right : Cond.instanceMethod yX11_right ∈ lw_g := gin 1066 (by decide +kernel) rfl
theorem se_X11_right : Cond.selects RX11 yX11_right yX11_right ∈ lw_g := gin 1067 (by decide +kernel) rfl
theorem cy_X12_right : CY mX12_right 3 := ⟨gin 1613 (by decide +kernel) rfl, gin 95 (by decide +kernel) rfl, by decide +kernel, by decide⟩
theorem ml_RL_148 : Cond.methodLink RL 148 yX12_right ∈ lw_g := gin 1610 (by decide +kernel) rfl
theorem im_X12_right : Cond.instanceMethod yX12_right ∈ lw_g := gin 1611 (by decide +kernel) rfl
theorem se_X12_right : Cond.selects RX12 yX12_right yX12_right ∈ lw_g := gin 1612 (by decide +kernel) rfl
theorem cy_X11_settle : CY mX11_settle 3 := ⟨gin 1076 (by decide +kernel) rfl, gin 88 (by decide +kernel) rfl, by decide +kernel, by decide⟩
theorem ml_RL_149 : Cond.methodLink RL 149 yX11_settle ∈ lw_g := gin 1073 (by decide +kernel) rfl
theorem im_X11_settle : Cond.instanceMethod yX11_settle ∈ lw_g := gin 1074 (by decide +kernel) rfl
theorem se_X11_settle : Cond.selects RX11 yX11_settle yX11_settle ∈ lw_g := gin 1075 (by decide +kernel) rfl
theorem cy_X12_settle : CY mX12_settle 3 := ⟨gin 1617 (by decide +kernel) rfl, gin 95 (by decide +kernel) rfl, by decide +kernel, by decide⟩
theorem ml_RL_152 : Cond.methodLink RL 152 yX12_settle ∈ lw_g := gin 1614 (by decide +kernel) rfl
theorem im_X12_settle : Cond.instanceMethod yX12_settle ∈ lw_g := gin 1615 (by decide +kernel) rfl
theorem se_X12_settle : Cond.selects RX12 yX12_settle yX12_settle ∈ lw_g := gin 1616 (by decide +kernel) rfl
theorem sm_L_equity : Cond.static yL_equity ∈ lw_g := gin 1189 (by decide +kernel) rfl
theorem ch_L_equity : CYH mL_equity 5 [(0, 11, 14, 13)] := ⟨cw_L_equity, gin 87 (by decide +kernel) rfl, by decide +kernel, by decide⟩
theorem ml_RL_153 : Cond.methodLink RL 153 yL_equity ∈ lw_g := gin 1188 (by decide +kernel) rfl
theorem cy_X12_equity : CY mX12_equity 3 := ⟨gin 1621 (by decide +kernel) rfl, gin 95 (by decide +kernel) rfl, by decide +kernel, by decide⟩
theorem ml_RL_156 : Cond.methodLink RL 156 yX12_equity ∈ lw_g := gin 1618 (by decide +kernel) rfl
theorem im_X12_equity : Cond.instanceMethod yX12_equity ∈ lw_g := gin 1619 (by decide +kernel) rfl
theorem se_X12_equity : Cond.selects RX12 yX12_equity yX12_equity ∈ lw_g := gin 1620 (by decide +kernel) rfl
theorem cy_X11_order : CY mX11_order 5 := ⟨gin 618 (by decide +kernel) rfl, gin 88 (by decide +kernel) rfl, by decide +kernel, by decide⟩
theorem ml_RL_71 : Cond.methodLink RL 71 yX11_order ∈ lw_g := gin 615 (by decide +kernel) rfl
theorem im_X11_order : Cond.instanceMethod yX11_order ∈ lw_g := gin 616 (by decide +kernel) rfl
theorem se_X11_order : Cond.selects RX11 yX11_order yX11_order ∈ lw_g := gin 617 (by decide +kernel) rfl
theorem cy_X11_waiting : CY mX11_waiting 4 := ⟨gin 818 (by decide +kernel) rfl, gin 88 (by decide +kernel) rfl, by decide +kernel, by decide⟩
theorem ml_RL_80 : Cond.methodLink RL 80 yX11_waiting ∈ lw_g := gin 815 (by decide +kernel) rfl
theorem im_X11_waiting : Cond.instanceMethod yX11_waiting ∈ lw_g := gin 816 (by decide +kernel) rfl
theorem se_X11_waiting : Cond.selects RX11 yX11_waiting yX11_waiting ∈ lw_g := gin 817 (by decide +kernel) rfl
theorem cy_X12_order : CY mX12_order 5 := ⟨gin 1469 (by decide +kernel) rfl, gin 95 (by decide +kernel) rfl, by decide +kernel, by decide⟩
theorem ml_RL_75 : Cond.methodLink RL 75 yX12_order ∈ lw_g := gin 1466 (by decide +kernel) rfl
theorem im_X12_order : Cond.instanceMethod yX12_order ∈ lw_g := gin 1467 (by decide +kernel) rfl
theorem se_X12_order : Cond.selects RX12 yX12_order yX12_order ∈ lw_g := gin 1468 (by decide +kernel) rfl
theorem cy_X12_waiting : CY mX12_waiting 4 := ⟨gin 1515 (by decide +kernel) rfl, gin 95 (by decide +kernel) rfl, by decide +kernel, by decide⟩
theorem ml_RL_84 : Cond.methodLink RL 84 yX12_waiting ∈ lw_g := gin 1512 (by decide +kernel) rfl
theorem im_X12_waiting : Cond.instanceMethod yX12_waiting ∈ lw_g := gin 1513 (by decide +kernel) rfl
theorem se_X12_waiting : Cond.selects RX12 yX12_waiting yX12_waiting ∈ lw_g := gin 1514 (by decide +kernel) rfl
def F_L_law_L1464 (b L : Nat) (xs : Nat → Int32) (k23 : Option Nat → Option Nat → Option Nat → Int32 → M Int32) (x1 : Option Nat) (x2 : Option Nat) (x3 : Option Nat) (x4 : Int32) : M Int32 := k23 x1 x2 x3 (x4 + (8 : Int32))
set_option maxRecDepth 100000 in
theorem O_L_law_L1464 (Γ : Gam) (hG : GX Γ) (b L : Nat) (xs : Nat → Int32) (hS0 : GS Γ b L xs) (k23 : Option Nat → Option Nat → Option Nat → Int32 → M Int32) (hk23 : ∀ (z1 : Option Nat) (z2 : Option Nat) (z3 : Option Nat) (z4 : Int32), Ok Γ mL_law 110 (qo Γ vI) 23 [(0, va_rf (some b)), (1, va_rf z1), (2, va_rf z2), (3, va_rf z3), (4, .int z4)] [] (k23 z1 z2 z3 z4)) (x1 : Option Nat) (x2 : Option Nat) (x3 : Option Nat) (x4 : Int32) : Ok Γ mL_law 110 (qo Γ vI) 1464 [(0, va_rf (some b)), (1, va_rf x1), (2, va_rf x2), (3, va_rf x3), (4, .int x4)] [] (F_L_law_L1464 b L xs k23 x1 x2 x3 x4) := by
  unfold F_L_law_L1464
  refine ok_iinc (lv' := [(4, .int (x4 + (8 : Int32))), (0, va_rf (some b)), (1, va_rf x1), (2, va_rf x2), (3, va_rf x3)]) (dd TL_law_23 24 rfl) 4 rfl (congrArg (fun q : Int32 => x4 + q) (show Int32.ofInt (8) = (8 : Int32) from by decide)) (by decide) (by first | rfl | (simp only [List.filter, cat_rf]; rfl)) ?_
  refine ok_goto (tgt := 23) (dd TL_law_23 25 rfl) (by decide) ?_
  refine ok_sub [1, 2, 3, 4, 0] rfl ?_
  exact hk23 x1 x2 x3 (x4 + (8 : Int32))
def F_L_law_L433 (b L : Nat) (xs : Nat → Int32) (k23 : Option Nat → Option Nat → Option Nat → Int32 → M Int32) (x1 : Option Nat) (x2 : Option Nat) (x3 : Option Nat) (x4 : Int32) : M Int32 := F_L_law_L1464 b L xs k23 x1 x2 x3 x4
set_option maxRecDepth 100000 in
theorem O_L_law_L433 (Γ : Gam) (hG : GX Γ) (b L : Nat) (xs : Nat → Int32) (hS0 : GS Γ b L xs) (k23 : Option Nat → Option Nat → Option Nat → Int32 → M Int32) (hk23 : ∀ (z1 : Option Nat) (z2 : Option Nat) (z3 : Option Nat) (z4 : Int32), Ok Γ mL_law 110 (qo Γ vI) 23 [(0, va_rf (some b)), (1, va_rf z1), (2, va_rf z2), (3, va_rf z3), (4, .int z4)] [] (k23 z1 z2 z3 z4)) (x1 : Option Nat) (x2 : Option Nat) (x3 : Option Nat) (x4 : Int32) : Ok Γ mL_law 110 (qo Γ vI) 433 [(0, va_rf (some b)), (1, va_rf x1), (2, va_rf x2), (3, va_rf x3), (4, .int x4)] [] (F_L_law_L433 b L xs k23 x1 x2 x3 x4) := by
  unfold F_L_law_L433
  refine ok_goto (tgt := 1464) (dd TL_law_5 17 rfl) (by decide) ?_
  exact O_L_law_L1464 Γ hG b L xs hS0 k23 hk23 x1 x2 x3 x4
def F_L_law_L513 (b L : Nat) (xs : Nat → Int32) (k23 : Option Nat → Option Nat → Option Nat → Int32 → M Int32) (x1 : Option Nat) (x2 : Option Nat) (x3 : Option Nat) (x4 : Int32) : M Int32 := F_L_law_L1464 b L xs k23 x1 x2 x3 x4
set_option maxRecDepth 100000 in
theorem O_L_law_L513 (Γ : Gam) (hG : GX Γ) (b L : Nat) (xs : Nat → Int32) (hS0 : GS Γ b L xs) (k23 : Option Nat → Option Nat → Option Nat → Int32 → M Int32) (hk23 : ∀ (z1 : Option Nat) (z2 : Option Nat) (z3 : Option Nat) (z4 : Int32), Ok Γ mL_law 110 (qo Γ vI) 23 [(0, va_rf (some b)), (1, va_rf z1), (2, va_rf z2), (3, va_rf z3), (4, .int z4)] [] (k23 z1 z2 z3 z4)) (x1 : Option Nat) (x2 : Option Nat) (x3 : Option Nat) (x4 : Int32) : Ok Γ mL_law 110 (qo Γ vI) 513 [(0, va_rf (some b)), (1, va_rf x1), (2, va_rf x2), (3, va_rf x3), (4, .int x4)] [] (F_L_law_L513 b L xs k23 x1 x2 x3 x4) := by
  unfold F_L_law_L513
  refine ok_goto (tgt := 1464) (dd TL_law_6 28 rfl) (by decide) ?_
  exact O_L_law_L1464 Γ hG b L xs hS0 k23 hk23 x1 x2 x3 x4
def F_L_law_L579 (b L : Nat) (xs : Nat → Int32) (k23 : Option Nat → Option Nat → Option Nat → Int32 → M Int32) (x1 : Option Nat) (x2 : Option Nat) (x3 : Option Nat) (x4 : Int32) (y0 : Int32) (y1 : Int32) (y2 : Option Nat) (y3 : Int32) : M Int32 := bn (sLd L xs (x4 + (3 : Int32))) fun v244 => bn (sLd L xs (x4 + (4 : Int32))) fun v245 => bn (sLd L xs (x4 + (5 : Int32))) fun v246 => bn (pRc 12 y2) fun b247 => bn (F_X12_order b247 y1 y0 v244 v245 v246) fun v248 => if y3 = v248 then F_L_law_L1464 b L xs k23 x1 x2 x3 x4 else rz (0 : Int32)
set_option maxRecDepth 100000 in
theorem O_L_law_L579 (Γ : Gam) (hG : GX Γ) (b L : Nat) (xs : Nat → Int32) (hS0 : GS Γ b L xs) (k23 : Option Nat → Option Nat → Option Nat → Int32 → M Int32) (hk23 : ∀ (z1 : Option Nat) (z2 : Option Nat) (z3 : Option Nat) (z4 : Int32), Ok Γ mL_law 110 (qo Γ vI) 23 [(0, va_rf (some b)), (1, va_rf z1), (2, va_rf z2), (3, va_rf z3), (4, .int z4)] [] (k23 z1 z2 z3 z4)) (x1 : Option Nat) (x2 : Option Nat) (x3 : Option Nat) (x4 : Int32) (y0 : Int32) (y1 : Int32) (y2 : Option Nat) (y3 : Int32) : Ok Γ mL_law 110 (qo Γ vI) 579 [(0, va_rf (some b)), (1, va_rf x1), (2, va_rf x2), (3, va_rf x3), (4, .int x4)] [.int y0, .int y1, va_rf y2, .int y3] (F_L_law_L579 b L xs k23 x1 x2 x3 x4 y0 y1 y2 y3) := by
  unfold F_L_law_L579
  refine ok_aload_n (dd TL_law_7 35 rfl) 0 rfl ?_
  refine ok_iload (dd TL_law_7 36 rfl) 4 rfl ?_
  refine ok_iconst (v := (3 : Int32)) (dd TL_law_7 37 rfl) (by decide) ?_
  refine ok_iadd (dd TL_law_7 38 rfl) ?_
  refine ok_sld hS0 (dd TL_law_7 39 rfl) (fun v244 => ?_)
  refine ok_aload_n (dd TL_law_8 0 rfl) 0 rfl ?_
  refine ok_iload (dd TL_law_8 1 rfl) 4 rfl ?_
  refine ok_iconst (v := (4 : Int32)) (dd TL_law_8 2 rfl) (by decide) ?_
  refine ok_iadd (dd TL_law_8 3 rfl) ?_
  refine ok_sld hS0 (dd TL_law_8 4 rfl) (fun v245 => ?_)
  refine ok_aload_n (dd TL_law_8 5 rfl) 0 rfl ?_
  refine ok_iload (dd TL_law_8 6 rfl) 4 rfl ?_
  refine ok_iconst (v := (5 : Int32)) (dd TL_law_8 7 rfl) (by decide) ?_
  refine ok_iadd (dd TL_law_8 8 rfl) ?_
  refine ok_sld hS0 (dd TL_law_8 9 rfl) (fun v246 => ?_)
  refine ok_callVI (cn := 12) [.int y1, .int y0, .int v244, .int v245, .int v246] [.int y3] (fun b247 => C_X12_order Γ b247 y1 y0 v244 v245 v246) rfl cy_X12_order ml_RL_75 im_X12_order se_X12_order (by decide) (Nat.le_of_ble_eq_true rfl) rfl (dd TL_law_8 10 rfl) (fun v248 => ?_)
  refine ok_icmp_eq (tgt := 1464) (dd TL_law_8 11 rfl) (by decide) ?_ ?_
  · exact O_L_law_L1464 Γ hG b L xs hS0 k23 hk23 x1 x2 x3 x4
  · refine ok_iconst (v := (0 : Int32)) (dd TL_law_8 12 rfl) (by decide) ?_
    exact ok_zreturn (dd TL_law_8 13 rfl) rfl
def F_L_law_L537 (b L : Nat) (xs : Nat → Int32) (k23 : Option Nat → Option Nat → Option Nat → Int32 → M Int32) (x1 : Option Nat) (x2 : Option Nat) (x3 : Option Nat) (x4 : Int32) (y0 : Int32) (y1 : Int32) (y2 : Option Nat) : M Int32 := bn (sLd L xs (x4 + (3 : Int32))) fun v231 => bn (sLd L xs (x4 + (4 : Int32))) fun v232 => bn (sLd L xs (x4 + (5 : Int32))) fun v233 => bn (pRc 11 y2) fun b234 => bn (F_X11_order b234 y1 y0 v231 v232 v233) fun v235 => bn (sLd L xs (x4 + (1 : Int32))) fun v236 => bn (sLd L xs (x4 + (2 : Int32))) fun v237 => if v237 = 0 then F_L_law_L579 b L xs k23 x1 x2 x3 x4 (0 : Int32) v236 x2 v235 else F_L_law_L579 b L xs k23 x1 x2 x3 x4 (1 : Int32) v236 x2 v235
set_option maxRecDepth 100000 in
theorem O_L_law_L537 (Γ : Gam) (hG : GX Γ) (b L : Nat) (xs : Nat → Int32) (hS0 : GS Γ b L xs) (k23 : Option Nat → Option Nat → Option Nat → Int32 → M Int32) (hk23 : ∀ (z1 : Option Nat) (z2 : Option Nat) (z3 : Option Nat) (z4 : Int32), Ok Γ mL_law 110 (qo Γ vI) 23 [(0, va_rf (some b)), (1, va_rf z1), (2, va_rf z2), (3, va_rf z3), (4, .int z4)] [] (k23 z1 z2 z3 z4)) (x1 : Option Nat) (x2 : Option Nat) (x3 : Option Nat) (x4 : Int32) (y0 : Int32) (y1 : Int32) (y2 : Option Nat) : Ok Γ mL_law 110 (qo Γ vI) 537 [(0, va_rf (some b)), (1, va_rf x1), (2, va_rf x2), (3, va_rf x3), (4, .int x4)] [.int y0, .int y1, va_rf y2] (F_L_law_L537 b L xs k23 x1 x2 x3 x4 y0 y1 y2) := by
  unfold F_L_law_L537
  refine ok_aload_n (dd TL_law_7 4 rfl) 0 rfl ?_
  refine ok_iload (dd TL_law_7 5 rfl) 4 rfl ?_
  refine ok_iconst (v := (3 : Int32)) (dd TL_law_7 6 rfl) (by decide) ?_
  refine ok_iadd (dd TL_law_7 7 rfl) ?_
  refine ok_sld hS0 (dd TL_law_7 8 rfl) (fun v231 => ?_)
  refine ok_aload_n (dd TL_law_7 9 rfl) 0 rfl ?_
  refine ok_iload (dd TL_law_7 10 rfl) 4 rfl ?_
  refine ok_iconst (v := (4 : Int32)) (dd TL_law_7 11 rfl) (by decide) ?_
  refine ok_iadd (dd TL_law_7 12 rfl) ?_
  refine ok_sld hS0 (dd TL_law_7 13 rfl) (fun v232 => ?_)
  refine ok_aload_n (dd TL_law_7 14 rfl) 0 rfl ?_
  refine ok_iload (dd TL_law_7 15 rfl) 4 rfl ?_
  refine ok_iconst (v := (5 : Int32)) (dd TL_law_7 16 rfl) (by decide) ?_
  refine ok_iadd (dd TL_law_7 17 rfl) ?_
  refine ok_sld hS0 (dd TL_law_7 18 rfl) (fun v233 => ?_)
  refine ok_callVI (cn := 11) [.int y1, .int y0, .int v231, .int v232, .int v233] [] (fun b234 => C_X11_order Γ b234 y1 y0 v231 v232 v233) rfl cy_X11_order ml_RL_71 im_X11_order se_X11_order (by decide) (Nat.le_of_ble_eq_true rfl) rfl (dd TL_law_7 19 rfl) (fun v235 => ?_)
  refine ok_aload_n (dd TL_law_7 20 rfl) 2 rfl ?_
  refine ok_aload_n (dd TL_law_7 21 rfl) 0 rfl ?_
  refine ok_iload (dd TL_law_7 22 rfl) 4 rfl ?_
  refine ok_iconst (v := (1 : Int32)) (dd TL_law_7 23 rfl) (by decide) ?_
  refine ok_iadd (dd TL_law_7 24 rfl) ?_
  refine ok_sld hS0 (dd TL_law_7 25 rfl) (fun v236 => ?_)
  refine ok_aload_n (dd TL_law_7 26 rfl) 0 rfl ?_
  refine ok_iload (dd TL_law_7 27 rfl) 4 rfl ?_
  refine ok_iconst (v := (2 : Int32)) (dd TL_law_7 28 rfl) (by decide) ?_
  refine ok_iadd (dd TL_law_7 29 rfl) ?_
  refine ok_sld hS0 (dd TL_law_7 30 rfl) (fun v237 => ?_)
  refine ok_if_eq (tgt := 578) (dd TL_law_7 31 rfl) (by decide) ?_ ?_
  · refine ok_iconst (v := (0 : Int32)) (dd TL_law_7 34 rfl) (by decide) ?_
    exact O_L_law_L579 Γ hG b L xs hS0 k23 hk23 x1 x2 x3 x4 (0 : Int32) v236 x2 v235
  · refine ok_iconst (v := (1 : Int32)) (dd TL_law_7 32 rfl) (by decide) ?_
    refine ok_goto (tgt := 579) (dd TL_law_7 33 rfl) (by decide) ?_
    exact O_L_law_L579 Γ hG b L xs hS0 k23 hk23 x1 x2 x3 x4 (1 : Int32) v236 x2 v235
def F_L_law_L693 (b L : Nat) (xs : Nat → Int32) (k23 : Option Nat → Option Nat → Option Nat → Int32 → M Int32) (x1 : Option Nat) (x2 : Option Nat) (x3 : Option Nat) (x4 : Int32) (y0 : Int32) (y1 : Option Nat) (y2 : Int32) : M Int32 := bn (sLd L xs (x4 + (2 : Int32))) fun v249 => bn (sLd L xs (x4 + (3 : Int32))) fun v250 => bn (sLd L xs (x4 + (4 : Int32))) fun v251 => bn (pRc 12 y1) fun b252 => bn (F_X12_waiting b252 y0 v249 v250 v251) fun v253 => if y2 = v253 then F_L_law_L1464 b L xs k23 x1 x2 x3 x4 else rz (0 : Int32)
set_option maxRecDepth 100000 in
theorem O_L_law_L693 (Γ : Gam) (hG : GX Γ) (b L : Nat) (xs : Nat → Int32) (hS0 : GS Γ b L xs) (k23 : Option Nat → Option Nat → Option Nat → Int32 → M Int32) (hk23 : ∀ (z1 : Option Nat) (z2 : Option Nat) (z3 : Option Nat) (z4 : Int32), Ok Γ mL_law 110 (qo Γ vI) 23 [(0, va_rf (some b)), (1, va_rf z1), (2, va_rf z2), (3, va_rf z3), (4, .int z4)] [] (k23 z1 z2 z3 z4)) (x1 : Option Nat) (x2 : Option Nat) (x3 : Option Nat) (x4 : Int32) (y0 : Int32) (y1 : Option Nat) (y2 : Int32) : Ok Γ mL_law 110 (qo Γ vI) 693 [(0, va_rf (some b)), (1, va_rf x1), (2, va_rf x2), (3, va_rf x3), (4, .int x4)] [.int y0, va_rf y1, .int y2] (F_L_law_L693 b L xs k23 x1 x2 x3 x4 y0 y1 y2) := by
  unfold F_L_law_L693
  refine ok_aload_n (dd TL_law_9 37 rfl) 0 rfl ?_
  refine ok_iload (dd TL_law_9 38 rfl) 4 rfl ?_
  refine ok_iconst (v := (2 : Int32)) (dd TL_law_9 39 rfl) (by decide) ?_
  refine ok_iadd (dd TL_law_10 0 rfl) ?_
  refine ok_sld hS0 (dd TL_law_10 1 rfl) (fun v249 => ?_)
  refine ok_aload_n (dd TL_law_10 2 rfl) 0 rfl ?_
  refine ok_iload (dd TL_law_10 3 rfl) 4 rfl ?_
  refine ok_iconst (v := (3 : Int32)) (dd TL_law_10 4 rfl) (by decide) ?_
  refine ok_iadd (dd TL_law_10 5 rfl) ?_
  refine ok_sld hS0 (dd TL_law_10 6 rfl) (fun v250 => ?_)
  refine ok_aload_n (dd TL_law_10 7 rfl) 0 rfl ?_
  refine ok_iload (dd TL_law_10 8 rfl) 4 rfl ?_
  refine ok_iconst (v := (4 : Int32)) (dd TL_law_10 9 rfl) (by decide) ?_
  refine ok_iadd (dd TL_law_10 10 rfl) ?_
  refine ok_sld hS0 (dd TL_law_10 11 rfl) (fun v251 => ?_)
  refine ok_callVI (cn := 12) [.int y0, .int v249, .int v250, .int v251] [.int y2] (fun b252 => C_X12_waiting Γ b252 y0 v249 v250 v251) rfl cy_X12_waiting ml_RL_84 im_X12_waiting se_X12_waiting (by decide) (Nat.le_of_ble_eq_true rfl) rfl (dd TL_law_10 12 rfl) (fun v253 => ?_)
  refine ok_icmp_eq (tgt := 1464) (dd TL_law_10 13 rfl) (by decide) ?_ ?_
  · exact O_L_law_L1464 Γ hG b L xs hS0 k23 hk23 x1 x2 x3 x4
  · refine ok_iconst (v := (0 : Int32)) (dd TL_law_10 14 rfl) (by decide) ?_
    exact ok_zreturn (dd TL_law_10 15 rfl) rfl
def F_L_law_L657 (b L : Nat) (xs : Nat → Int32) (k23 : Option Nat → Option Nat → Option Nat → Int32 → M Int32) (x1 : Option Nat) (x2 : Option Nat) (x3 : Option Nat) (x4 : Int32) (y0 : Int32) (y1 : Option Nat) : M Int32 := bn (sLd L xs (x4 + (2 : Int32))) fun v238 => bn (sLd L xs (x4 + (3 : Int32))) fun v239 => bn (sLd L xs (x4 + (4 : Int32))) fun v240 => bn (pRc 11 y1) fun b241 => bn (F_X11_waiting b241 y0 v238 v239 v240) fun v242 => bn (sLd L xs (x4 + (1 : Int32))) fun v243 => if v243 = 0 then F_L_law_L693 b L xs k23 x1 x2 x3 x4 (0 : Int32) x2 v242 else F_L_law_L693 b L xs k23 x1 x2 x3 x4 (1 : Int32) x2 v242
set_option maxRecDepth 100000 in
theorem O_L_law_L657 (Γ : Gam) (hG : GX Γ) (b L : Nat) (xs : Nat → Int32) (hS0 : GS Γ b L xs) (k23 : Option Nat → Option Nat → Option Nat → Int32 → M Int32) (hk23 : ∀ (z1 : Option Nat) (z2 : Option Nat) (z3 : Option Nat) (z4 : Int32), Ok Γ mL_law 110 (qo Γ vI) 23 [(0, va_rf (some b)), (1, va_rf z1), (2, va_rf z2), (3, va_rf z3), (4, .int z4)] [] (k23 z1 z2 z3 z4)) (x1 : Option Nat) (x2 : Option Nat) (x3 : Option Nat) (x4 : Int32) (y0 : Int32) (y1 : Option Nat) : Ok Γ mL_law 110 (qo Γ vI) 657 [(0, va_rf (some b)), (1, va_rf x1), (2, va_rf x2), (3, va_rf x3), (4, .int x4)] [.int y0, va_rf y1] (F_L_law_L657 b L xs k23 x1 x2 x3 x4 y0 y1) := by
  unfold F_L_law_L657
  refine ok_aload_n (dd TL_law_9 11 rfl) 0 rfl ?_
  refine ok_iload (dd TL_law_9 12 rfl) 4 rfl ?_
  refine ok_iconst (v := (2 : Int32)) (dd TL_law_9 13 rfl) (by decide) ?_
  refine ok_iadd (dd TL_law_9 14 rfl) ?_
  refine ok_sld hS0 (dd TL_law_9 15 rfl) (fun v238 => ?_)
  refine ok_aload_n (dd TL_law_9 16 rfl) 0 rfl ?_
  refine ok_iload (dd TL_law_9 17 rfl) 4 rfl ?_
  refine ok_iconst (v := (3 : Int32)) (dd TL_law_9 18 rfl) (by decide) ?_
  refine ok_iadd (dd TL_law_9 19 rfl) ?_
  refine ok_sld hS0 (dd TL_law_9 20 rfl) (fun v239 => ?_)
  refine ok_aload_n (dd TL_law_9 21 rfl) 0 rfl ?_
  refine ok_iload (dd TL_law_9 22 rfl) 4 rfl ?_
  refine ok_iconst (v := (4 : Int32)) (dd TL_law_9 23 rfl) (by decide) ?_
  refine ok_iadd (dd TL_law_9 24 rfl) ?_
  refine ok_sld hS0 (dd TL_law_9 25 rfl) (fun v240 => ?_)
  refine ok_callVI (cn := 11) [.int y0, .int v238, .int v239, .int v240] [] (fun b241 => C_X11_waiting Γ b241 y0 v238 v239 v240) rfl cy_X11_waiting ml_RL_80 im_X11_waiting se_X11_waiting (by decide) (Nat.le_of_ble_eq_true rfl) rfl (dd TL_law_9 26 rfl) (fun v242 => ?_)
  refine ok_aload_n (dd TL_law_9 27 rfl) 2 rfl ?_
  refine ok_aload_n (dd TL_law_9 28 rfl) 0 rfl ?_
  refine ok_iload (dd TL_law_9 29 rfl) 4 rfl ?_
  refine ok_iconst (v := (1 : Int32)) (dd TL_law_9 30 rfl) (by decide) ?_
  refine ok_iadd (dd TL_law_9 31 rfl) ?_
  refine ok_sld hS0 (dd TL_law_9 32 rfl) (fun v243 => ?_)
  refine ok_if_eq (tgt := 692) (dd TL_law_9 33 rfl) (by decide) ?_ ?_
  · refine ok_iconst (v := (0 : Int32)) (dd TL_law_9 36 rfl) (by decide) ?_
    exact O_L_law_L693 Γ hG b L xs hS0 k23 hk23 x1 x2 x3 x4 (0 : Int32) x2 v242
  · refine ok_iconst (v := (1 : Int32)) (dd TL_law_9 34 rfl) (by decide) ?_
    refine ok_goto (tgt := 693) (dd TL_law_9 35 rfl) (by decide) ?_
    exact O_L_law_L693 Γ hG b L xs hS0 k23 hk23 x1 x2 x3 x4 (1 : Int32) x2 v242
def F_L_law_L858 (b L : Nat) (xs : Nat → Int32) (k23 : Option Nat → Option Nat → Option Nat → Int32 → M Int32) (x1 : Option Nat) (x2 : Option Nat) (x3 : Option Nat) (x4 : Int32) : M Int32 := F_L_law_L1464 b L xs k23 x1 x2 x3 x4
set_option maxRecDepth 100000 in
theorem O_L_law_L858 (Γ : Gam) (hG : GX Γ) (b L : Nat) (xs : Nat → Int32) (hS0 : GS Γ b L xs) (k23 : Option Nat → Option Nat → Option Nat → Int32 → M Int32) (hk23 : ∀ (z1 : Option Nat) (z2 : Option Nat) (z3 : Option Nat) (z4 : Int32), Ok Γ mL_law 110 (qo Γ vI) 23 [(0, va_rf (some b)), (1, va_rf z1), (2, va_rf z2), (3, va_rf z3), (4, .int z4)] [] (k23 z1 z2 z3 z4)) (x1 : Option Nat) (x2 : Option Nat) (x3 : Option Nat) (x4 : Int32) : Ok Γ mL_law 110 (qo Γ vI) 858 [(0, va_rf (some b)), (1, va_rf x1), (2, va_rf x2), (3, va_rf x3), (4, .int x4)] [] (F_L_law_L858 b L xs k23 x1 x2 x3 x4) := by
  unfold F_L_law_L858
  refine ok_goto (tgt := 1464) (dd TL_law_12 30 rfl) (by decide) ?_
  exact O_L_law_L1464 Γ hG b L xs hS0 k23 hk23 x1 x2 x3 x4
def F_L_law_L926 (b L : Nat) (xs : Nat → Int32) (k23 : Option Nat → Option Nat → Option Nat → Int32 → M Int32) (x1 : Option Nat) (x2 : Option Nat) (x3 : Option Nat) (x4 : Int32) : M Int32 := F_L_law_L1464 b L xs k23 x1 x2 x3 x4
set_option maxRecDepth 100000 in
theorem O_L_law_L926 (Γ : Gam) (hG : GX Γ) (b L : Nat) (xs : Nat → Int32) (hS0 : GS Γ b L xs) (k23 : Option Nat → Option Nat → Option Nat → Int32 → M Int32) (hk23 : ∀ (z1 : Option Nat) (z2 : Option Nat) (z3 : Option Nat) (z4 : Int32), Ok Γ mL_law 110 (qo Γ vI) 23 [(0, va_rf (some b)), (1, va_rf z1), (2, va_rf z2), (3, va_rf z3), (4, .int z4)] [] (k23 z1 z2 z3 z4)) (x1 : Option Nat) (x2 : Option Nat) (x3 : Option Nat) (x4 : Int32) : Ok Γ mL_law 110 (qo Γ vI) 926 [(0, va_rf (some b)), (1, va_rf x1), (2, va_rf x2), (3, va_rf x3), (4, .int x4)] [] (F_L_law_L926 b L xs k23 x1 x2 x3 x4) := by
  unfold F_L_law_L926
  refine ok_goto (tgt := 1464) (dd TL_law_13 35 rfl) (by decide) ?_
  exact O_L_law_L1464 Γ hG b L xs hS0 k23 hk23 x1 x2 x3 x4
def F_L_law_L1461 (b L : Nat) (xs : Nat → Int32) (k23 : Option Nat → Option Nat → Option Nat → Int32 → M Int32) (x1 : Option Nat) (x2 : Option Nat) (x3 : Option Nat) (x4 : Int32) : M Int32 := F_L_law_L1464 b L xs k23 x1 x2 x3 x4
set_option maxRecDepth 100000 in
theorem O_L_law_L1461 (Γ : Gam) (hG : GX Γ) (b L : Nat) (xs : Nat → Int32) (hS0 : GS Γ b L xs) (k23 : Option Nat → Option Nat → Option Nat → Int32 → M Int32) (hk23 : ∀ (z1 : Option Nat) (z2 : Option Nat) (z3 : Option Nat) (z4 : Int32), Ok Γ mL_law 110 (qo Γ vI) 23 [(0, va_rf (some b)), (1, va_rf z1), (2, va_rf z2), (3, va_rf z3), (4, .int z4)] [] (k23 z1 z2 z3 z4)) (x1 : Option Nat) (x2 : Option Nat) (x3 : Option Nat) (x4 : Int32) : Ok Γ mL_law 110 (qo Γ vI) 1461 [(0, va_rf (some b)), (1, va_rf x1), (2, va_rf x2), (3, va_rf x3), (4, .int x4)] [] (F_L_law_L1461 b L xs k23 x1 x2 x3 x4) := by
  unfold F_L_law_L1461
  refine ok_goto (tgt := 1464) (dd TL_law_23 23 rfl) (by decide) ?_
  exact O_L_law_L1464 Γ hG b L xs hS0 k23 hk23 x1 x2 x3 x4
def F_L_law_L23 (b L : Nat) (xs : Nat → Int32) : Nat → Option Nat → Option Nat → Option Nat → Int32 → M Int32
  | 0 => fun _ _ _ _ => fl
  | n + 1 => fun x1 x2 x3 x4 => if ((Int32.ofNat L) - (8 : Int32)) < x4 then rz (1 : Int32) else bn (sLd L xs x4) fun v7 => swF (v7 &&& (31 : Int32)) [((0 : Int32), 168, bn (sLd L xs (x4 + (1 : Int32))) fun v8 => bn (sLd L xs (x4 + (2 : Int32))) fun v9 => bn (sLd L xs (x4 + (3 : Int32))) fun v10 => bn (sLd L xs (x4 + (4 : Int32))) fun v11 => bn (sLd L xs (x4 + (5 : Int32))) fun v12 => bn (pRc 11 x1) fun b13 => bn (F_X11_feed b13 v8 v9 v10 v11 v12) fun v14 => bn (sLd L xs (x4 + (1 : Int32))) fun v15 => bn (sLd L xs (x4 + (2 : Int32))) fun v16 => bn (sLd L xs (x4 + (3 : Int32))) fun v17 => bn (sLd L xs (x4 + (4 : Int32))) fun v18 => bn (sLd L xs (x4 + (5 : Int32))) fun v19 => bn (pRc 12 x2) fun b20 => bn (F_X12_feed b20 v15 v16 v17 v18 v19) fun v21 => if v14 = v21 then F_L_law_L1464 b L xs (F_L_law_L23 b L xs n) x1 x2 x3 x4 else rz (0 : Int32)), ((1 : Int32), 241, bn (sLd L xs (x4 + (1 : Int32))) fun v22 => bn (pRc 11 x1) fun b23 => bn (F_X11_end b23 v22) fun v24 => bn (sLd L xs (x4 + (1 : Int32))) fun v25 => bn (pRc 12 x2) fun b26 => bn (F_X12_end b26 v25) fun v27 => if v24 = v27 then F_L_law_L1464 b L xs (F_L_law_L23 b L xs n) x1 x2 x3 x4 else rz (0 : Int32)), ((2 : Int32), 266, bn (pRc 11 x1) fun b28 => bn (F_X11_rules b28) fun v29 => bn (pRc 12 x2) fun b30 => bn (F_X12_rules b30) fun v31 => if v29 = v31 then F_L_law_L1464 b L xs (F_L_law_L23 b L xs n) x1 x2 x3 x4 else rz (0 : Int32)), ((3 : Int32), 279, bn (sLd L xs (x4 + (1 : Int32))) fun v32 => bn (pRc 11 x1) fun b33 => bn (F_X11_fault b33 v32) fun v34 => bn (sLd L xs (x4 + (1 : Int32))) fun v35 => bn (pRc 12 x2) fun b36 => bn (F_X12_fault b36 v35) fun v37 => if v34 = v37 then F_L_law_L1464 b L xs (F_L_law_L23 b L xs n) x1 x2 x3 x4 else rz (0 : Int32)), ((4 : Int32), 304, bn (sLd L xs (x4 + (1 : Int32))) fun v38 => bn (sLd L xs (x4 + (2 : Int32))) fun v39 => bn (sLd L xs (x4 + (3 : Int32))) fun v40 => bn (sLd L xs (x4 + (4 : Int32))) fun v41 => bn (sLd L xs (x4 + (5 : Int32))) fun v42 => bn (sLd L xs (x4 + (6 : Int32))) fun v43 => bn (sLd L xs (x4 + (7 : Int32))) fun v44 => bn (F_L_rule x1 v38 v39 v40 v41 v42 v43 v44 x3) fun v45 => bn (sLd L xs (x4 + (1 : Int32))) fun v46 => bn (sLd L xs (x4 + (2 : Int32))) fun v47 => bn (sLd L xs (x4 + (3 : Int32))) fun v48 => bn (sLd L xs (x4 + (4 : Int32))) fun v49 => bn (sLd L xs (x4 + (5 : Int32))) fun v50 => bn (sLd L xs (x4 + (6 : Int32))) fun v51 => bn (sLd L xs (x4 + (7 : Int32))) fun v52 => bn (pRc 12 x2) fun b53 => bn (F_X12_rule b53 v46 v47 v48 v49 v50 v51 v52) fun v54 => bn (pRc 12 x2) fun b55 => bn (F_X12_thrown b55) fun v56 => if v56 = v45 then if ¬ v45 = 0 then F_L_law_L433 b L xs (F_L_law_L23 b L xs n) x1 x2 x3 x4 else bn (lL 377 x3 (0 : Int32)) fun v57 => if (lg_cmp v57 v54.toInt64) = 0 then F_L_law_L433 b L xs (F_L_law_L23 b L xs n) x1 x2 x3 x4 else rz (0 : Int32) else rz (0 : Int32)), ((5 : Int32), 436, bn (pRc 11 x1) fun b58 => bn (F_X11_member b58) fun v59 => bn (pRc 12 x2) fun b60 => bn (F_X12_member b60) fun v61 => if v59 = v61 then F_L_law_L1464 b L xs (F_L_law_L23 b L xs n) x1 x2 x3 x4 else rz (0 : Int32)), ((6 : Int32), 449, bn (sLd L xs (x4 + (1 : Int32))) fun v62 => bn (sLd L xs (x4 + (2 : Int32))) fun v63 => bn (F_L_pay x1 v62 v63 x3) fun v64 => bn (sLd L xs (x4 + (1 : Int32))) fun v65 => bn (sLd L xs (x4 + (2 : Int32))) fun v66 => bn (pRc 12 x2) fun b67 => bn (F_X12_pay b67 v65 v66) fun v68 => bn (pRc 12 x2) fun b69 => bn (F_X12_thrown b69) fun v70 => if v70 = v64 then if ¬ v64 = 0 then F_L_law_L513 b L xs (F_L_law_L23 b L xs n) x1 x2 x3 x4 else bn (lL 377 x3 (0 : Int32)) fun v71 => if (lg_cmp v71 v68) = 0 then F_L_law_L513 b L xs (F_L_law_L23 b L xs n) x1 x2 x3 x4 else rz (0 : Int32) else rz (0 : Int32)), ((7 : Int32), 516, bn (sLd L xs (x4 + (1 : Int32))) fun v72 => bn (sLd L xs (x4 + (2 : Int32))) fun v73 => if v73 = 0 then F_L_law_L537 b L xs (F_L_law_L23 b L xs n) x1 x2 x3 x4 (0 : Int32) v72 x1 else F_L_law_L537 b L xs (F_L_law_L23 b L xs n) x1 x2 x3 x4 (1 : Int32) v72 x1), ((8 : Int32), 605, bn (sLd L xs (x4 + (1 : Int32))) fun v74 => bn (sLd L xs (x4 + (2 : Int32))) fun v75 => bn (pRc 11 x1) fun b76 => bn (F_X11_cancel b76 v74 v75) fun v77 => bn (sLd L xs (x4 + (1 : Int32))) fun v78 => bn (sLd L xs (x4 + (2 : Int32))) fun v79 => bn (pRc 12 x2) fun b80 => bn (F_X12_cancel b80 v78 v79) fun v81 => if v77 = v81 then F_L_law_L1464 b L xs (F_L_law_L23 b L xs n) x1 x2 x3 x4 else rz (0 : Int32)), ((9 : Int32), 642, bn (sLd L xs (x4 + (1 : Int32))) fun v82 => if v82 = 0 then F_L_law_L657 b L xs (F_L_law_L23 b L xs n) x1 x2 x3 x4 (0 : Int32) x1 else F_L_law_L657 b L xs (F_L_law_L23 b L xs n) x1 x2 x3 x4 (1 : Int32) x1), ((10 : Int32), 719, bn (sLd L xs (x4 + (1 : Int32))) fun v83 => bn (sLd L xs (x4 + (2 : Int32))) fun v84 => bn (pRc 11 x1) fun b85 => bn (F_X11_trade b85 v83 v84) fun v86 => bn (sLd L xs (x4 + (1 : Int32))) fun v87 => bn (sLd L xs (x4 + (2 : Int32))) fun v88 => bn (pRc 12 x2) fun b89 => bn (F_X12_trade b89 v87 v88) fun v90 => if v86 = v90 then F_L_law_L1464 b L xs (F_L_law_L23 b L xs n) x1 x2 x3 x4 else rz (0 : Int32)), ((11 : Int32), 756, bn (sLd L xs (x4 + (1 : Int32))) fun v91 => bn (pRc 11 x1) fun b92 => bn (F_X11_strike b92 v91) fun v93 => bn (sLd L xs (x4 + (1 : Int32))) fun v94 => bn (pRc 12 x2) fun b95 => bn (F_X12_strike b95 v94) fun v96 => if v93 = v96 then F_L_law_L1464 b L xs (F_L_law_L23 b L xs n) x1 x2 x3 x4 else rz (0 : Int32)), ((12 : Int32), 781, bn (pRc 11 x1) fun b97 => bn (F_X11_night b97) fun v98 => bn (pRc 12 x2) fun b99 => bn (F_X12_night b99) fun v100 => if v98 = v100 then F_L_law_L1464 b L xs (F_L_law_L23 b L xs n) x1 x2 x3 x4 else rz (0 : Int32)), ((13 : Int32), 794, bn (sLd L xs (x4 + (1 : Int32))) fun v101 => bn (sLd L xs (x4 + (2 : Int32))) fun v102 => bn (F_L_money x1 v101 v102 x3) fun v103 => bn (sLd L xs (x4 + (1 : Int32))) fun v104 => bn (sLd L xs (x4 + (2 : Int32))) fun v105 => bn (pRc 12 x2) fun b106 => bn (F_X12_money b106 v104 v105) fun v107 => bn (pRc 12 x2) fun b108 => bn (F_X12_thrown b108) fun v109 => if v109 = v103 then if ¬ v103 = 0 then F_L_law_L858 b L xs (F_L_law_L23 b L xs n) x1 x2 x3 x4 else bn (lL 377 x3 (0 : Int32)) fun v110 => if (lg_cmp v110 v107) = 0 then F_L_law_L858 b L xs (F_L_law_L23 b L xs n) x1 x2 x3 x4 else rz (0 : Int32) else rz (0 : Int32)), ((14 : Int32), 861, bn (sLd L xs (x4 + (1 : Int32))) fun v111 => bn (sLd L xs (x4 + (2 : Int32))) fun v112 => bn (F_L_position x1 v111 v112 x3) fun v113 => bn (sLd L xs (x4 + (1 : Int32))) fun v114 => bn (sLd L xs (x4 + (2 : Int32))) fun v115 => bn (pRc 12 x2) fun b116 => bn (F_X12_position b116 v114 v115) fun v117 => bn (pRc 12 x2) fun b118 => bn (F_X12_thrown b118) fun v119 => if v119 = v113 then if ¬ v113 = 0 then F_L_law_L926 b L xs (F_L_law_L23 b L xs n) x1 x2 x3 x4 else bn (lL 377 x3 (0 : Int32)) fun v120 => if (lg_cmp v120 v117.toInt64) = 0 then F_L_law_L926 b L xs (F_L_law_L23 b L xs n) x1 x2 x3 x4 else rz (0 : Int32) else rz (0 : Int32)), ((15 : Int32), 929, bn (sLd L xs (x4 + (1 : Int32))) fun v121 => bn (sLd L xs (x4 + (2 : Int32))) fun v122 => bn (sLd L xs (x4 + (3 : Int32))) fun v123 => bn (pRc 11 x1) fun b124 => bn (F_X11_longOf b124 v121 v122 v123) fun v125 => bn (sLd L xs (x4 + (1 : Int32))) fun v126 => bn (sLd L xs (x4 + (2 : Int32))) fun v127 => bn (sLd L xs (x4 + (3 : Int32))) fun v128 => bn (pRc 12 x2) fun b129 => bn (F_X12_longOf b129 v126 v127 v128) fun v130 => if v125 = v130 then F_L_law_L1464 b L xs (F_L_law_L23 b L xs n) x1 x2 x3 x4 else rz (0 : Int32)), ((16 : Int32), 978, bn (sLd L xs (x4 + (1 : Int32))) fun v131 => bn (pRc 11 x1) fun b132 => bn (F_X11_count b132 v131) fun v133 => bn (sLd L xs (x4 + (1 : Int32))) fun v134 => bn (pRc 12 x2) fun b135 => bn (F_X12_count b135 v134) fun v136 => if v133 = v136 then F_L_law_L1464 b L xs (F_L_law_L23 b L xs n) x1 x2 x3 x4 else rz (0 : Int32)), ((17 : Int32), 1003, bn (sLd L xs (x4 + (1 : Int32))) fun v137 => bn (pRc 11 x1) fun b138 => bn (F_X11_deliver b138 v137) fun v139 => bn (sLd L xs (x4 + (1 : Int32))) fun v140 => bn (pRc 12 x2) fun b141 => bn (F_X12_deliver b141 v140) fun v142 => if v139 = v142 then F_L_law_L1464 b L xs (F_L_law_L23 b L xs n) x1 x2 x3 x4 else rz (0 : Int32)), ((18 : Int32), 1028, bn (sLd L xs (x4 + (1 : Int32))) fun v143 => bn (sLd L xs (x4 + (2 : Int32))) fun v144 => bn (sLd L xs (x4 + (3 : Int32))) fun v145 => bn (pRc 11 x1) fun b146 => bn (F_X11_receipt b146 v143 v144 v145) fun v147 => bn (sLd L xs (x4 + (1 : Int32))) fun v148 => bn (sLd L xs (x4 + (2 : Int32))) fun v149 => bn (sLd L xs (x4 + (3 : Int32))) fun v150 => bn (pRc 12 x2) fun b151 => bn (F_X12_receipt b151 v148 v149 v150) fun v152 => if v147 = v152 then F_L_law_L1464 b L xs (F_L_law_L23 b L xs n) x1 x2 x3 x4 else rz (0 : Int32)), ((19 : Int32), 1077, bn (sLd L xs (x4 + (1 : Int32))) fun v153 => bn (sLd L xs (x4 + (2 : Int32))) fun v154 => bn (sLd L xs (x4 + (3 : Int32))) fun v155 => bn (pRc 11 x1) fun b156 => bn (F_X11_notice b156 v153 v154 v155) fun v157 => bn (sLd L xs (x4 + (1 : Int32))) fun v158 => bn (sLd L xs (x4 + (2 : Int32))) fun v159 => bn (sLd L xs (x4 + (3 : Int32))) fun v160 => bn (pRc 12 x2) fun b161 => bn (F_X12_notice b161 v158 v159 v160) fun v162 => if v157 = v162 then F_L_law_L1464 b L xs (F_L_law_L23 b L xs n) x1 x2 x3 x4 else rz (0 : Int32)), ((20 : Int32), 1126, bn (sLd L xs (x4 + (1 : Int32))) fun v163 => bn (pRc 11 x1) fun b164 => bn (F_X11_pass b164 v163) fun v165 => bn (sLd L xs (x4 + (1 : Int32))) fun v166 => bn (pRc 12 x2) fun b167 => bn (F_X12_pass b167 v166) fun v168 => if v165 = v168 then F_L_law_L1464 b L xs (F_L_law_L23 b L xs n) x1 x2 x3 x4 else rz (0 : Int32)), ((21 : Int32), 1151, bn (sLd L xs (x4 + (1 : Int32))) fun v169 => bn (pRc 11 x1) fun b170 => bn (F_X11_keep b170 v169) fun v171 => bn (sLd L xs (x4 + (1 : Int32))) fun v172 => bn (pRc 12 x2) fun b173 => bn (F_X12_keep b173 v172) fun v174 => if v171 = v174 then F_L_law_L1464 b L xs (F_L_law_L23 b L xs n) x1 x2 x3 x4 else rz (0 : Int32)), ((22 : Int32), 1176, bn (sLd L xs (x4 + (1 : Int32))) fun v175 => bn (sLd L xs (x4 + (2 : Int32))) fun v176 => bn (pRc 11 x1) fun b177 => bn (F_X11_told b177 v175 v176) fun v178 => bn (sLd L xs (x4 + (1 : Int32))) fun v179 => bn (sLd L xs (x4 + (2 : Int32))) fun v180 => bn (pRc 12 x2) fun b181 => bn (F_X12_told b181 v179 v180) fun v182 => if v178 = v182 then F_L_law_L1464 b L xs (F_L_law_L23 b L xs n) x1 x2 x3 x4 else rz (0 : Int32)), ((23 : Int32), 1213, bn (sLd L xs (x4 + (1 : Int32))) fun v183 => bn (sLd L xs (x4 + (2 : Int32))) fun v184 => bn (pRc 11 x1) fun b185 => bn (F_X11_stored b185 v183 v184) fun v186 => bn (sLd L xs (x4 + (1 : Int32))) fun v187 => bn (sLd L xs (x4 + (2 : Int32))) fun v188 => bn (pRc 12 x2) fun b189 => bn (F_X12_stored b189 v187 v188) fun v190 => if v186 = v190 then F_L_law_L1464 b L xs (F_L_law_L23 b L xs n) x1 x2 x3 x4 else rz (0 : Int32)), ((24 : Int32), 1250, bn (sLd L xs (x4 + (1 : Int32))) fun v191 => bn (sLd L xs (x4 + (2 : Int32))) fun v192 => bn (pRc 11 x1) fun b193 => bn (F_X11_squeeze b193 v191 v192) fun v194 => bn (sLd L xs (x4 + (1 : Int32))) fun v195 => bn (sLd L xs (x4 + (2 : Int32))) fun v196 => bn (pRc 12 x2) fun b197 => bn (F_X12_squeeze b197 v195 v196) fun v198 => if v194 = v198 then F_L_law_L1464 b L xs (F_L_law_L23 b L xs n) x1 x2 x3 x4 else rz (0 : Int32)), ((25 : Int32), 1287, bn (sLd L xs (x4 + (1 : Int32))) fun v199 => bn (sLd L xs (x4 + (2 : Int32))) fun v200 => bn (sLd L xs (x4 + (3 : Int32))) fun v201 => bn (pRc 11 x1) fun b202 => bn (F_X11_right b202 v199 v200 v201) fun v203 => bn (sLd L xs (x4 + (1 : Int32))) fun v204 => bn (sLd L xs (x4 + (2 : Int32))) fun v205 => bn (sLd L xs (x4 + (3 : Int32))) fun v206 => bn (pRc 12 x2) fun b207 => bn (F_X12_right b207 v204 v205 v206) fun v208 => if v203 = v208 then F_L_law_L1464 b L xs (F_L_law_L23 b L xs n) x1 x2 x3 x4 else rz (0 : Int32)), ((26 : Int32), 1336, bn (sLd L xs (x4 + (1 : Int32))) fun v209 => bn (sLd L xs (x4 + (2 : Int32))) fun v210 => bn (sLd L xs (x4 + (3 : Int32))) fun v211 => bn (pRc 11 x1) fun b212 => bn (F_X11_settle b212 v209 v210 v211) fun v213 => bn (sLd L xs (x4 + (1 : Int32))) fun v214 => bn (sLd L xs (x4 + (2 : Int32))) fun v215 => bn (sLd L xs (x4 + (3 : Int32))) fun v216 => bn (pRc 12 x2) fun b217 => bn (F_X12_settle b217 v214 v215 v216) fun v218 => if v213 = v218 then F_L_law_L1464 b L xs (F_L_law_L23 b L xs n) x1 x2 x3 x4 else rz (0 : Int32)), ((27 : Int32), 1385, bn (sLd L xs (x4 + (1 : Int32))) fun v219 => bn (sLd L xs (x4 + (2 : Int32))) fun v220 => bn (sLd L xs (x4 + (3 : Int32))) fun v221 => bn (F_L_equity x1 v219 v220 v221 x3) fun v222 => bn (sLd L xs (x4 + (1 : Int32))) fun v223 => bn (sLd L xs (x4 + (2 : Int32))) fun v224 => bn (sLd L xs (x4 + (3 : Int32))) fun v225 => bn (pRc 12 x2) fun b226 => bn (F_X12_equity b226 v223 v224 v225) fun v227 => bn (pRc 12 x2) fun b228 => bn (F_X12_thrown b228) fun v229 => if v229 = v222 then if ¬ v222 = 0 then F_L_law_L1461 b L xs (F_L_law_L23 b L xs n) x1 x2 x3 x4 else bn (lL 377 x3 (0 : Int32)) fun v230 => if (lg_cmp v230 v227) = 0 then F_L_law_L1461 b L xs (F_L_law_L23 b L xs n) x1 x2 x3 x4 else rz (0 : Int32) else rz (0 : Int32))] (F_L_law_L1464 b L xs (F_L_law_L23 b L xs n) x1 x2 x3 x4)
set_option maxRecDepth 100000 in
theorem O_L_law_L23 (Γ : Gam) (hG : GX Γ) (b L : Nat) (xs : Nat → Int32) (hS0 : GS Γ b L xs) (n : Nat) : ∀ (x1 : Option Nat) (x2 : Option Nat) (x3 : Option Nat) (x4 : Int32), Ok Γ mL_law 110 (qo Γ vI) 23 [(0, va_rf (some b)), (1, va_rf x1), (2, va_rf x2), (3, va_rf x3), (4, .int x4)] [] (F_L_law_L23 b L xs n x1 x2 x3 x4) := by
  induction n with
  | zero => intro x1 x2 x3 x4; exact ok_fl
  | succ n ih =>
    intro x1 x2 x3 x4
    rw [F_L_law_L23]
    refine ok_iload (dd TL_law_0 13 rfl) 4 rfl ?_
    refine ok_aload_n (dd TL_law_0 14 rfl) 0 rfl ?_
    refine ok_sln hS0 (dd TL_law_0 15 rfl) ?_
    refine ok_bipush (v := (8 : Int32)) (dd TL_law_0 16 rfl) (by decide) ?_
    refine ok_isub (dd TL_law_0 17 rfl) ?_
    refine ok_icmp_gt (tgt := 1470) (dd TL_law_0 18 rfl) (by decide) ?_ ?_
    · refine ok_iconst (v := (1 : Int32)) (dd TL_law_23 26 rfl) (by decide) ?_
      exact ok_zreturn (dd TL_law_23 27 rfl) rfl
    · refine ok_aload_n (dd TL_law_0 19 rfl) 0 rfl ?_
      refine ok_iload (dd TL_law_0 20 rfl) 4 rfl ?_
      refine ok_sld hS0 (dd TL_law_0 21 rfl) (fun v7 => ?_)
      refine ok_bipush (v := (31 : Int32)) (dd TL_law_0 22 rfl) (by decide) ?_
      refine ok_iand (dd TL_law_0 23 rfl) ?_
      refine ok_tsw (dt := 1464) (dd TL_law_0 24 rfl) rfl (List.forall_mem_cons.mpr ⟨?_, List.forall_mem_cons.mpr ⟨?_, List.forall_mem_cons.mpr ⟨?_, List.forall_mem_cons.mpr ⟨?_, List.forall_mem_cons.mpr ⟨?_, List.forall_mem_cons.mpr ⟨?_, List.forall_mem_cons.mpr ⟨?_, List.forall_mem_cons.mpr ⟨?_, List.forall_mem_cons.mpr ⟨?_, List.forall_mem_cons.mpr ⟨?_, List.forall_mem_cons.mpr ⟨?_, List.forall_mem_cons.mpr ⟨?_, List.forall_mem_cons.mpr ⟨?_, List.forall_mem_cons.mpr ⟨?_, List.forall_mem_cons.mpr ⟨?_, List.forall_mem_cons.mpr ⟨?_, List.forall_mem_cons.mpr ⟨?_, List.forall_mem_cons.mpr ⟨?_, List.forall_mem_cons.mpr ⟨?_, List.forall_mem_cons.mpr ⟨?_, List.forall_mem_cons.mpr ⟨?_, List.forall_mem_cons.mpr ⟨?_, List.forall_mem_cons.mpr ⟨?_, List.forall_mem_cons.mpr ⟨?_, List.forall_mem_cons.mpr ⟨?_, List.forall_mem_cons.mpr ⟨?_, List.forall_mem_cons.mpr ⟨?_, List.forall_mem_cons.mpr ⟨?_, fun _ h => absurd h List.not_mem_nil⟩⟩⟩⟩⟩⟩⟩⟩⟩⟩⟩⟩⟩⟩⟩⟩⟩⟩⟩⟩⟩⟩⟩⟩⟩⟩⟩⟩) ?_
      · show Ok _ _ _ _ 168 _ _ (bn (sLd L xs (x4 + (1 : Int32))) fun v8 => bn (sLd L xs (x4 + (2 : Int32))) fun v9 => bn (sLd L xs (x4 + (3 : Int32))) fun v10 => bn (sLd L xs (x4 + (4 : Int32))) fun v11 => bn (sLd L xs (x4 + (5 : Int32))) fun v12 => bn (pRc 11 x1) fun b13 => bn (F_X11_feed b13 v8 v9 v10 v11 v12) fun v14 => bn (sLd L xs (x4 + (1 : Int32))) fun v15 => bn (sLd L xs (x4 + (2 : Int32))) fun v16 => bn (sLd L xs (x4 + (3 : Int32))) fun v17 => bn (sLd L xs (x4 + (4 : Int32))) fun v18 => bn (sLd L xs (x4 + (5 : Int32))) fun v19 => bn (pRc 12 x2) fun b20 => bn (F_X12_feed b20 v15 v16 v17 v18 v19) fun v21 => if v14 = v21 then F_L_law_L1464 b L xs (F_L_law_L23 b L xs n) x1 x2 x3 x4 else rz (0 : Int32))
        refine ok_aload_n (dd TL_law_0 25 rfl) 1 rfl ?_
        refine ok_aload_n (dd TL_law_0 26 rfl) 0 rfl ?_
        refine ok_iload (dd TL_law_0 27 rfl) 4 rfl ?_
        refine ok_iconst (v := (1 : Int32)) (dd TL_law_0 28 rfl) (by decide) ?_
        refine ok_iadd (dd TL_law_0 29 rfl) ?_
        refine ok_sld hS0 (dd TL_law_0 30 rfl) (fun v8 => ?_)
        refine ok_aload_n (dd TL_law_0 31 rfl) 0 rfl ?_
        refine ok_iload (dd TL_law_0 32 rfl) 4 rfl ?_
        refine ok_iconst (v := (2 : Int32)) (dd TL_law_0 33 rfl) (by decide) ?_
        refine ok_iadd (dd TL_law_0 34 rfl) ?_
        refine ok_sld hS0 (dd TL_law_0 35 rfl) (fun v9 => ?_)
        refine ok_aload_n (dd TL_law_0 36 rfl) 0 rfl ?_
        refine ok_iload (dd TL_law_0 37 rfl) 4 rfl ?_
        refine ok_iconst (v := (3 : Int32)) (dd TL_law_0 38 rfl) (by decide) ?_
        refine ok_iadd (dd TL_law_0 39 rfl) ?_
        refine ok_sld hS0 (dd TL_law_1 0 rfl) (fun v10 => ?_)
        refine ok_aload_n (dd TL_law_1 1 rfl) 0 rfl ?_
        refine ok_iload (dd TL_law_1 2 rfl) 4 rfl ?_
        refine ok_iconst (v := (4 : Int32)) (dd TL_law_1 3 rfl) (by decide) ?_
        refine ok_iadd (dd TL_law_1 4 rfl) ?_
        refine ok_sld hS0 (dd TL_law_1 5 rfl) (fun v11 => ?_)
        refine ok_aload_n (dd TL_law_1 6 rfl) 0 rfl ?_
        refine ok_iload (dd TL_law_1 7 rfl) 4 rfl ?_
        refine ok_iconst (v := (5 : Int32)) (dd TL_law_1 8 rfl) (by decide) ?_
        refine ok_iadd (dd TL_law_1 9 rfl) ?_
        refine ok_sld hS0 (dd TL_law_1 10 rfl) (fun v12 => ?_)
        refine ok_callVI (cn := 11) [.int v8, .int v9, .int v10, .int v11, .int v12] [] (fun b13 => C_X11_feed Γ b13 v8 v9 v10 v11 v12) rfl cy_X11_feed ml_RL_34 im_X11_feed se_X11_feed (by decide) (Nat.le_of_ble_eq_true rfl) rfl (dd TL_law_1 11 rfl) (fun v14 => ?_)
        refine ok_aload_n (dd TL_law_1 12 rfl) 2 rfl ?_
        refine ok_aload_n (dd TL_law_1 13 rfl) 0 rfl ?_
        refine ok_iload (dd TL_law_1 14 rfl) 4 rfl ?_
        refine ok_iconst (v := (1 : Int32)) (dd TL_law_1 15 rfl) (by decide) ?_
        refine ok_iadd (dd TL_law_1 16 rfl) ?_
        refine ok_sld hS0 (dd TL_law_1 17 rfl) (fun v15 => ?_)
        refine ok_aload_n (dd TL_law_1 18 rfl) 0 rfl ?_
        refine ok_iload (dd TL_law_1 19 rfl) 4 rfl ?_
        refine ok_iconst (v := (2 : Int32)) (dd TL_law_1 20 rfl) (by decide) ?_
        refine ok_iadd (dd TL_law_1 21 rfl) ?_
        refine ok_sld hS0 (dd TL_law_1 22 rfl) (fun v16 => ?_)
        refine ok_aload_n (dd TL_law_1 23 rfl) 0 rfl ?_
        refine ok_iload (dd TL_law_1 24 rfl) 4 rfl ?_
        refine ok_iconst (v := (3 : Int32)) (dd TL_law_1 25 rfl) (by decide) ?_
        refine ok_iadd (dd TL_law_1 26 rfl) ?_
        refine ok_sld hS0 (dd TL_law_1 27 rfl) (fun v17 => ?_)
        refine ok_aload_n (dd TL_law_1 28 rfl) 0 rfl ?_
        refine ok_iload (dd TL_law_1 29 rfl) 4 rfl ?_
        refine ok_iconst (v := (4 : Int32)) (dd TL_law_1 30 rfl) (by decide) ?_
        refine ok_iadd (dd TL_law_1 31 rfl) ?_
        refine ok_sld hS0 (dd TL_law_1 32 rfl) (fun v18 => ?_)
        refine ok_aload_n (dd TL_law_1 33 rfl) 0 rfl ?_
        refine ok_iload (dd TL_law_1 34 rfl) 4 rfl ?_
        refine ok_iconst (v := (5 : Int32)) (dd TL_law_1 35 rfl) (by decide) ?_
        refine ok_iadd (dd TL_law_1 36 rfl) ?_
        refine ok_sld hS0 (dd TL_law_1 37 rfl) (fun v19 => ?_)
        refine ok_callVI (cn := 12) [.int v15, .int v16, .int v17, .int v18, .int v19] [.int v14] (fun b20 => C_X12_feed Γ b20 v15 v16 v17 v18 v19) rfl cy_X12_feed ml_RL_38 im_X12_feed se_X12_feed (by decide) (Nat.le_of_ble_eq_true rfl) rfl (dd TL_law_1 38 rfl) (fun v21 => ?_)
        refine ok_icmp_eq (tgt := 1464) (dd TL_law_1 39 rfl) (by decide) ?_ ?_
        · exact O_L_law_L1464 Γ hG b L xs hS0 (F_L_law_L23 b L xs n) ih x1 x2 x3 x4
        · refine ok_iconst (v := (0 : Int32)) (dd TL_law_2 0 rfl) (by decide) ?_
          exact ok_zreturn (dd TL_law_2 1 rfl) rfl
      · show Ok _ _ _ _ 241 _ _ (bn (sLd L xs (x4 + (1 : Int32))) fun v22 => bn (pRc 11 x1) fun b23 => bn (F_X11_end b23 v22) fun v24 => bn (sLd L xs (x4 + (1 : Int32))) fun v25 => bn (pRc 12 x2) fun b26 => bn (F_X12_end b26 v25) fun v27 => if v24 = v27 then F_L_law_L1464 b L xs (F_L_law_L23 b L xs n) x1 x2 x3 x4 else rz (0 : Int32))
        refine ok_aload_n (dd TL_law_2 2 rfl) 1 rfl ?_
        refine ok_aload_n (dd TL_law_2 3 rfl) 0 rfl ?_
        refine ok_iload (dd TL_law_2 4 rfl) 4 rfl ?_
        refine ok_iconst (v := (1 : Int32)) (dd TL_law_2 5 rfl) (by decide) ?_
        refine ok_iadd (dd TL_law_2 6 rfl) ?_
        refine ok_sld hS0 (dd TL_law_2 7 rfl) (fun v22 => ?_)
        refine ok_callVI (cn := 11) [.int v22] [] (fun b23 => C_X11_end Γ b23 v22) rfl cy_X11_end ml_RL_39 im_X11_end se_X11_end (by decide) (Nat.le_of_ble_eq_true rfl) rfl (dd TL_law_2 8 rfl) (fun v24 => ?_)
        refine ok_aload_n (dd TL_law_2 9 rfl) 2 rfl ?_
        refine ok_aload_n (dd TL_law_2 10 rfl) 0 rfl ?_
        refine ok_iload (dd TL_law_2 11 rfl) 4 rfl ?_
        refine ok_iconst (v := (1 : Int32)) (dd TL_law_2 12 rfl) (by decide) ?_
        refine ok_iadd (dd TL_law_2 13 rfl) ?_
        refine ok_sld hS0 (dd TL_law_2 14 rfl) (fun v25 => ?_)
        refine ok_callVI (cn := 12) [.int v25] [.int v24] (fun b26 => C_X12_end Γ b26 v25) rfl cy_X12_end ml_RL_43 im_X12_end se_X12_end (by decide) (Nat.le_of_ble_eq_true rfl) rfl (dd TL_law_2 15 rfl) (fun v27 => ?_)
        refine ok_icmp_eq (tgt := 1464) (dd TL_law_2 16 rfl) (by decide) ?_ ?_
        · exact O_L_law_L1464 Γ hG b L xs hS0 (F_L_law_L23 b L xs n) ih x1 x2 x3 x4
        · refine ok_iconst (v := (0 : Int32)) (dd TL_law_2 17 rfl) (by decide) ?_
          exact ok_zreturn (dd TL_law_2 18 rfl) rfl
      · show Ok _ _ _ _ 266 _ _ (bn (pRc 11 x1) fun b28 => bn (F_X11_rules b28) fun v29 => bn (pRc 12 x2) fun b30 => bn (F_X12_rules b30) fun v31 => if v29 = v31 then F_L_law_L1464 b L xs (F_L_law_L23 b L xs n) x1 x2 x3 x4 else rz (0 : Int32))
        refine ok_aload_n (dd TL_law_2 19 rfl) 1 rfl ?_
        refine ok_callVI (cn := 11) [] [] (fun b28 => C_X11_rules Γ b28) rfl cy_X11_rules ml_RL_44 im_X11_rules se_X11_rules (by decide) (Nat.le_of_ble_eq_true rfl) rfl (dd TL_law_2 20 rfl) (fun v29 => ?_)
        refine ok_aload_n (dd TL_law_2 21 rfl) 2 rfl ?_
        refine ok_callVI (cn := 12) [] [.int v29] (fun b30 => C_X12_rules Γ b30) rfl cy_X12_rules ml_RL_48 im_X12_rules se_X12_rules (by decide) (Nat.le_of_ble_eq_true rfl) rfl (dd TL_law_2 22 rfl) (fun v31 => ?_)
        refine ok_icmp_eq (tgt := 1464) (dd TL_law_2 23 rfl) (by decide) ?_ ?_
        · exact O_L_law_L1464 Γ hG b L xs hS0 (F_L_law_L23 b L xs n) ih x1 x2 x3 x4
        · refine ok_iconst (v := (0 : Int32)) (dd TL_law_2 24 rfl) (by decide) ?_
          exact ok_zreturn (dd TL_law_2 25 rfl) rfl
      · show Ok _ _ _ _ 279 _ _ (bn (sLd L xs (x4 + (1 : Int32))) fun v32 => bn (pRc 11 x1) fun b33 => bn (F_X11_fault b33 v32) fun v34 => bn (sLd L xs (x4 + (1 : Int32))) fun v35 => bn (pRc 12 x2) fun b36 => bn (F_X12_fault b36 v35) fun v37 => if v34 = v37 then F_L_law_L1464 b L xs (F_L_law_L23 b L xs n) x1 x2 x3 x4 else rz (0 : Int32))
        refine ok_aload_n (dd TL_law_2 26 rfl) 1 rfl ?_
        refine ok_aload_n (dd TL_law_2 27 rfl) 0 rfl ?_
        refine ok_iload (dd TL_law_2 28 rfl) 4 rfl ?_
        refine ok_iconst (v := (1 : Int32)) (dd TL_law_2 29 rfl) (by decide) ?_
        refine ok_iadd (dd TL_law_2 30 rfl) ?_
        refine ok_sld hS0 (dd TL_law_2 31 rfl) (fun v32 => ?_)
        refine ok_callVI (cn := 11) [.int v32] [] (fun b33 => C_X11_fault Γ b33 v32) rfl cy_X11_fault ml_RL_49 im_X11_fault se_X11_fault (by decide) (Nat.le_of_ble_eq_true rfl) rfl (dd TL_law_2 32 rfl) (fun v34 => ?_)
        refine ok_aload_n (dd TL_law_2 33 rfl) 2 rfl ?_
        refine ok_aload_n (dd TL_law_2 34 rfl) 0 rfl ?_
        refine ok_iload (dd TL_law_2 35 rfl) 4 rfl ?_
        refine ok_iconst (v := (1 : Int32)) (dd TL_law_2 36 rfl) (by decide) ?_
        refine ok_iadd (dd TL_law_2 37 rfl) ?_
        refine ok_sld hS0 (dd TL_law_2 38 rfl) (fun v35 => ?_)
        refine ok_callVI (cn := 12) [.int v35] [.int v34] (fun b36 => C_X12_fault Γ b36 v35) rfl cy_X12_fault ml_RL_53 im_X12_fault se_X12_fault (by decide) (Nat.le_of_ble_eq_true rfl) rfl (dd TL_law_2 39 rfl) (fun v37 => ?_)
        refine ok_icmp_eq (tgt := 1464) (dd TL_law_3 0 rfl) (by decide) ?_ ?_
        · exact O_L_law_L1464 Γ hG b L xs hS0 (F_L_law_L23 b L xs n) ih x1 x2 x3 x4
        · refine ok_iconst (v := (0 : Int32)) (dd TL_law_3 1 rfl) (by decide) ?_
          exact ok_zreturn (dd TL_law_3 2 rfl) rfl
      · show Ok _ _ _ _ 304 _ _ (bn (sLd L xs (x4 + (1 : Int32))) fun v38 => bn (sLd L xs (x4 + (2 : Int32))) fun v39 => bn (sLd L xs (x4 + (3 : Int32))) fun v40 => bn (sLd L xs (x4 + (4 : Int32))) fun v41 => bn (sLd L xs (x4 + (5 : Int32))) fun v42 => bn (sLd L xs (x4 + (6 : Int32))) fun v43 => bn (sLd L xs (x4 + (7 : Int32))) fun v44 => bn (F_L_rule x1 v38 v39 v40 v41 v42 v43 v44 x3) fun v45 => bn (sLd L xs (x4 + (1 : Int32))) fun v46 => bn (sLd L xs (x4 + (2 : Int32))) fun v47 => bn (sLd L xs (x4 + (3 : Int32))) fun v48 => bn (sLd L xs (x4 + (4 : Int32))) fun v49 => bn (sLd L xs (x4 + (5 : Int32))) fun v50 => bn (sLd L xs (x4 + (6 : Int32))) fun v51 => bn (sLd L xs (x4 + (7 : Int32))) fun v52 => bn (pRc 12 x2) fun b53 => bn (F_X12_rule b53 v46 v47 v48 v49 v50 v51 v52) fun v54 => bn (pRc 12 x2) fun b55 => bn (F_X12_thrown b55) fun v56 => if v56 = v45 then if ¬ v45 = 0 then F_L_law_L433 b L xs (F_L_law_L23 b L xs n) x1 x2 x3 x4 else bn (lL 377 x3 (0 : Int32)) fun v57 => if (lg_cmp v57 v54.toInt64) = 0 then F_L_law_L433 b L xs (F_L_law_L23 b L xs n) x1 x2 x3 x4 else rz (0 : Int32) else rz (0 : Int32))
        refine ok_aload_n (dd TL_law_3 3 rfl) 1 rfl ?_
        refine ok_aload_n (dd TL_law_3 4 rfl) 0 rfl ?_
        refine ok_iload (dd TL_law_3 5 rfl) 4 rfl ?_
        refine ok_iconst (v := (1 : Int32)) (dd TL_law_3 6 rfl) (by decide) ?_
        refine ok_iadd (dd TL_law_3 7 rfl) ?_
        refine ok_sld hS0 (dd TL_law_3 8 rfl) (fun v38 => ?_)
        refine ok_aload_n (dd TL_law_3 9 rfl) 0 rfl ?_
        refine ok_iload (dd TL_law_3 10 rfl) 4 rfl ?_
        refine ok_iconst (v := (2 : Int32)) (dd TL_law_3 11 rfl) (by decide) ?_
        refine ok_iadd (dd TL_law_3 12 rfl) ?_
        refine ok_sld hS0 (dd TL_law_3 13 rfl) (fun v39 => ?_)
        refine ok_aload_n (dd TL_law_3 14 rfl) 0 rfl ?_
        refine ok_iload (dd TL_law_3 15 rfl) 4 rfl ?_
        refine ok_iconst (v := (3 : Int32)) (dd TL_law_3 16 rfl) (by decide) ?_
        refine ok_iadd (dd TL_law_3 17 rfl) ?_
        refine ok_sld hS0 (dd TL_law_3 18 rfl) (fun v40 => ?_)
        refine ok_aload_n (dd TL_law_3 19 rfl) 0 rfl ?_
        refine ok_iload (dd TL_law_3 20 rfl) 4 rfl ?_
        refine ok_iconst (v := (4 : Int32)) (dd TL_law_3 21 rfl) (by decide) ?_
        refine ok_iadd (dd TL_law_3 22 rfl) ?_
        refine ok_sld hS0 (dd TL_law_3 23 rfl) (fun v41 => ?_)
        refine ok_aload_n (dd TL_law_3 24 rfl) 0 rfl ?_
        refine ok_iload (dd TL_law_3 25 rfl) 4 rfl ?_
        refine ok_iconst (v := (5 : Int32)) (dd TL_law_3 26 rfl) (by decide) ?_
        refine ok_iadd (dd TL_law_3 27 rfl) ?_
        refine ok_sld hS0 (dd TL_law_3 28 rfl) (fun v42 => ?_)
        refine ok_aload_n (dd TL_law_3 29 rfl) 0 rfl ?_
        refine ok_iload (dd TL_law_3 30 rfl) 4 rfl ?_
        refine ok_bipush (v := (6 : Int32)) (dd TL_law_3 31 rfl) (by decide) ?_
        refine ok_iadd (dd TL_law_3 32 rfl) ?_
        refine ok_sld hS0 (dd TL_law_3 33 rfl) (fun v43 => ?_)
        refine ok_aload_n (dd TL_law_3 34 rfl) 0 rfl ?_
        refine ok_iload (dd TL_law_3 35 rfl) 4 rfl ?_
        refine ok_bipush (v := (7 : Int32)) (dd TL_law_3 36 rfl) (by decide) ?_
        refine ok_iadd (dd TL_law_3 37 rfl) ?_
        refine ok_sld hS0 (dd TL_law_3 38 rfl) (fun v44 => ?_)
        refine ok_aload_n (dd TL_law_3 39 rfl) 3 rfl ?_
        refine ok_callSH [va_rf x1, .int v38, .int v39, .int v40, .int v41, .int v42, .int v43, .int v44, va_rf x3] [] (C_L_rule Γ hG x1 v38 v39 v40 v41 v42 v43 v44 x3) ch_L_rule ml_RL_54 sm_L_rule (by decide) (Nat.le_of_ble_eq_true rfl) rfl (dd TL_law_4 0 rfl) (fun v45 => ?_)
        refine ok_istore (lv' := [(5, .int v45), (0, va_rf (some b)), (1, va_rf x1), (2, va_rf x2), (3, va_rf x3), (4, .int x4)]) (dd TL_law_4 1 rfl) (by decide) (by first | rfl | (simp only [List.filter, cat_rf]; rfl)) ?_
        refine ok_aload_n (dd TL_law_4 2 rfl) 3 rfl ?_
        refine ok_aload_n (dd TL_law_4 3 rfl) 1 rfl ?_
        refine ok_iload (dd TL_law_4 4 rfl) 5 rfl ?_
        refine ok_iconst (v := (1 : Int32)) (dd TL_law_4 5 rfl) (by decide) ?_
        refine ok_iadd (dd TL_law_4 6 rfl) ?_
        refine ok_sld hS0 (dd TL_law_4 7 rfl) (fun v46 => ?_)
        refine ok_aload_n (dd TL_law_4 8 rfl) 1 rfl ?_
        refine ok_iload (dd TL_law_4 9 rfl) 5 rfl ?_
        refine ok_iconst (v := (2 : Int32)) (dd TL_law_4 10 rfl) (by decide) ?_
        refine ok_iadd (dd TL_law_4 11 rfl) ?_
        refine ok_sld hS0 (dd TL_law_4 12 rfl) (fun v47 => ?_)
        refine ok_aload_n (dd TL_law_4 13 rfl) 1 rfl ?_
        refine ok_iload (dd TL_law_4 14 rfl) 5 rfl ?_
        refine ok_iconst (v := (3 : Int32)) (dd TL_law_4 15 rfl) (by decide) ?_
        refine ok_iadd (dd TL_law_4 16 rfl) ?_
        refine ok_sld hS0 (dd TL_law_4 17 rfl) (fun v48 => ?_)
        refine ok_aload_n (dd TL_law_4 18 rfl) 1 rfl ?_
        refine ok_iload (dd TL_law_4 19 rfl) 5 rfl ?_
        refine ok_iconst (v := (4 : Int32)) (dd TL_law_4 20 rfl) (by decide) ?_
        refine ok_iadd (dd TL_law_4 21 rfl) ?_
        refine ok_sld hS0 (dd TL_law_4 22 rfl) (fun v49 => ?_)
        refine ok_aload_n (dd TL_law_4 23 rfl) 1 rfl ?_
        refine ok_iload (dd TL_law_4 24 rfl) 5 rfl ?_
        refine ok_iconst (v := (5 : Int32)) (dd TL_law_4 25 rfl) (by decide) ?_
        refine ok_iadd (dd TL_law_4 26 rfl) ?_
        refine ok_sld hS0 (dd TL_law_4 27 rfl) (fun v50 => ?_)
        refine ok_aload_n (dd TL_law_4 28 rfl) 1 rfl ?_
        refine ok_iload (dd TL_law_4 29 rfl) 5 rfl ?_
        refine ok_bipush (v := (6 : Int32)) (dd TL_law_4 30 rfl) (by decide) ?_
        refine ok_iadd (dd TL_law_4 31 rfl) ?_
        refine ok_sld hS0 (dd TL_law_4 32 rfl) (fun v51 => ?_)
        refine ok_aload_n (dd TL_law_4 33 rfl) 1 rfl ?_
        refine ok_iload (dd TL_law_4 34 rfl) 5 rfl ?_
        refine ok_bipush (v := (7 : Int32)) (dd TL_law_4 35 rfl) (by decide) ?_
        refine ok_iadd (dd TL_law_4 36 rfl) ?_
        refine ok_sld hS0 (dd TL_law_4 37 rfl) (fun v52 => ?_)
        refine ok_callVI (cn := 12) [.int v46, .int v47, .int v48, .int v49, .int v50, .int v51, .int v52] [] (fun b53 => C_X12_rule Γ b53 v46 v47 v48 v49 v50 v51 v52) rfl cy_X12_rule ml_RL_59 im_X12_rule se_X12_rule (by decide) (Nat.le_of_ble_eq_true rfl) rfl (dd TL_law_4 38 rfl) (fun v54 => ?_)
        refine ok_istore (lv' := [(6, .int v54), (5, .int v45), (0, va_rf (some b)), (1, va_rf x1), (2, va_rf x2), (3, va_rf x3), (4, .int x4)]) (dd TL_law_4 39 rfl) (by decide) (by first | rfl | (simp only [List.filter, cat_rf]; rfl)) ?_
        refine ok_aload_n (dd TL_law_5 0 rfl) 4 rfl ?_
        refine ok_callVI (cn := 12) [] [] (fun b55 => C_X12_thrown Γ b55) rfl cy_X12_thrown ml_RL_60 im_X12_thrown se_X12_thrown (by decide) (Nat.le_of_ble_eq_true rfl) rfl (dd TL_law_5 1 rfl) (fun v56 => ?_)
        refine ok_iload (dd TL_law_5 2 rfl) 1 rfl ?_
        refine ok_icmp_eq (tgt := 416) (dd TL_law_5 3 rfl) (by decide) ?_ ?_
        · refine ok_iload (dd TL_law_5 6 rfl) 1 rfl ?_
          refine ok_if_ne (tgt := 433) (dd TL_law_5 7 rfl) (by decide) ?_ ?_
          · refine ok_sub [2, 3, 4, 5, 6] rfl ?_
            exact O_L_law_L433 Γ hG b L xs hS0 (F_L_law_L23 b L xs n) ih x1 x2 x3 x4
          · refine ok_aload_n (dd TL_law_5 8 rfl) 5 rfl ?_
            refine ok_iconst (v := (0 : Int32)) (dd TL_law_5 9 rfl) (by decide) ?_
            refine ok_lL (kd := 377) (by decide) rfl (dd TL_law_5 10 rfl) (fun v57 => ?_)
            refine ok_iload (dd TL_law_5 11 rfl) 0 rfl ?_
            refine ok_i2l (dd TL_law_5 12 rfl) ?_
            refine ok_lcmp (dd TL_law_5 13 rfl) ?_
            refine ok_if_eq (tgt := 433) (dd TL_law_5 14 rfl) (by decide) ?_ ?_
            · refine ok_sub [2, 3, 4, 5, 6] rfl ?_
              exact O_L_law_L433 Γ hG b L xs hS0 (F_L_law_L23 b L xs n) ih x1 x2 x3 x4
            · refine ok_iconst (v := (0 : Int32)) (dd TL_law_5 15 rfl) (by decide) ?_
              exact ok_zreturn (dd TL_law_5 16 rfl) rfl
        · refine ok_iconst (v := (0 : Int32)) (dd TL_law_5 4 rfl) (by decide) ?_
          exact ok_zreturn (dd TL_law_5 5 rfl) rfl
      · show Ok _ _ _ _ 436 _ _ (bn (pRc 11 x1) fun b58 => bn (F_X11_member b58) fun v59 => bn (pRc 12 x2) fun b60 => bn (F_X12_member b60) fun v61 => if v59 = v61 then F_L_law_L1464 b L xs (F_L_law_L23 b L xs n) x1 x2 x3 x4 else rz (0 : Int32))
        refine ok_aload_n (dd TL_law_5 18 rfl) 1 rfl ?_
        refine ok_callVI (cn := 11) [] [] (fun b58 => C_X11_member Γ b58) rfl cy_X11_member ml_RL_63 im_X11_member se_X11_member (by decide) (Nat.le_of_ble_eq_true rfl) rfl (dd TL_law_5 19 rfl) (fun v59 => ?_)
        refine ok_aload_n (dd TL_law_5 20 rfl) 2 rfl ?_
        refine ok_callVI (cn := 12) [] [.int v59] (fun b60 => C_X12_member Γ b60) rfl cy_X12_member ml_RL_66 im_X12_member se_X12_member (by decide) (Nat.le_of_ble_eq_true rfl) rfl (dd TL_law_5 21 rfl) (fun v61 => ?_)
        refine ok_icmp_eq (tgt := 1464) (dd TL_law_5 22 rfl) (by decide) ?_ ?_
        · exact O_L_law_L1464 Γ hG b L xs hS0 (F_L_law_L23 b L xs n) ih x1 x2 x3 x4
        · refine ok_iconst (v := (0 : Int32)) (dd TL_law_5 23 rfl) (by decide) ?_
          exact ok_zreturn (dd TL_law_5 24 rfl) rfl
      · show Ok _ _ _ _ 449 _ _ (bn (sLd L xs (x4 + (1 : Int32))) fun v62 => bn (sLd L xs (x4 + (2 : Int32))) fun v63 => bn (F_L_pay x1 v62 v63 x3) fun v64 => bn (sLd L xs (x4 + (1 : Int32))) fun v65 => bn (sLd L xs (x4 + (2 : Int32))) fun v66 => bn (pRc 12 x2) fun b67 => bn (F_X12_pay b67 v65 v66) fun v68 => bn (pRc 12 x2) fun b69 => bn (F_X12_thrown b69) fun v70 => if v70 = v64 then if ¬ v64 = 0 then F_L_law_L513 b L xs (F_L_law_L23 b L xs n) x1 x2 x3 x4 else bn (lL 377 x3 (0 : Int32)) fun v71 => if (lg_cmp v71 v68) = 0 then F_L_law_L513 b L xs (F_L_law_L23 b L xs n) x1 x2 x3 x4 else rz (0 : Int32) else rz (0 : Int32))
        refine ok_aload_n (dd TL_law_5 25 rfl) 1 rfl ?_
        refine ok_aload_n (dd TL_law_5 26 rfl) 0 rfl ?_
        refine ok_iload (dd TL_law_5 27 rfl) 4 rfl ?_
        refine ok_iconst (v := (1 : Int32)) (dd TL_law_5 28 rfl) (by decide) ?_
        refine ok_iadd (dd TL_law_5 29 rfl) ?_
        refine ok_sld hS0 (dd TL_law_5 30 rfl) (fun v62 => ?_)
        refine ok_aload_n (dd TL_law_5 31 rfl) 0 rfl ?_
        refine ok_iload (dd TL_law_5 32 rfl) 4 rfl ?_
        refine ok_iconst (v := (2 : Int32)) (dd TL_law_5 33 rfl) (by decide) ?_
        refine ok_iadd (dd TL_law_5 34 rfl) ?_
        refine ok_sld hS0 (dd TL_law_5 35 rfl) (fun v63 => ?_)
        refine ok_aload_n (dd TL_law_5 36 rfl) 3 rfl ?_
        refine ok_callSH [va_rf x1, .int v62, .int v63, va_rf x3] [] (C_L_pay Γ hG x1 v62 v63 x3) ch_L_pay ml_RL_67 sm_L_pay (by decide) (Nat.le_of_ble_eq_true rfl) rfl (dd TL_law_5 37 rfl) (fun v64 => ?_)
        refine ok_istore (lv' := [(5, .int v64), (0, va_rf (some b)), (1, va_rf x1), (2, va_rf x2), (3, va_rf x3), (4, .int x4)]) (dd TL_law_5 38 rfl) (by decide) (by first | rfl | (simp only [List.filter, cat_rf]; rfl)) ?_
        refine ok_aload_n (dd TL_law_5 39 rfl) 3 rfl ?_
        refine ok_aload_n (dd TL_law_6 0 rfl) 1 rfl ?_
        refine ok_iload (dd TL_law_6 1 rfl) 5 rfl ?_
        refine ok_iconst (v := (1 : Int32)) (dd TL_law_6 2 rfl) (by decide) ?_
        refine ok_iadd (dd TL_law_6 3 rfl) ?_
        refine ok_sld hS0 (dd TL_law_6 4 rfl) (fun v65 => ?_)
        refine ok_aload_n (dd TL_law_6 5 rfl) 1 rfl ?_
        refine ok_iload (dd TL_law_6 6 rfl) 5 rfl ?_
        refine ok_iconst (v := (2 : Int32)) (dd TL_law_6 7 rfl) (by decide) ?_
        refine ok_iadd (dd TL_law_6 8 rfl) ?_
        refine ok_sld hS0 (dd TL_law_6 9 rfl) (fun v66 => ?_)
        refine ok_callVL (cn := 12) [.int v65, .int v66] [] (fun b67 => C_X12_pay Γ b67 v65 v66) rfl cy_X12_pay ml_RL_70 im_X12_pay se_X12_pay (by decide) (Nat.le_of_ble_eq_true rfl) rfl (dd TL_law_6 10 rfl) (fun v68 => ?_)
        refine ok_lstore (lv' := [(6, .long v68), (5, .int v64), (0, va_rf (some b)), (1, va_rf x1), (2, va_rf x2), (3, va_rf x3), (4, .int x4)]) (dd TL_law_6 11 rfl) (by decide) (by first | rfl | (simp only [List.filter, cat_rf]; rfl)) ?_
        refine ok_aload_n (dd TL_law_6 12 rfl) 4 rfl ?_
        refine ok_callVI (cn := 12) [] [] (fun b69 => C_X12_thrown Γ b69) rfl cy_X12_thrown ml_RL_60 im_X12_thrown se_X12_thrown (by decide) (Nat.le_of_ble_eq_true rfl) rfl (dd TL_law_6 13 rfl) (fun v70 => ?_)
        refine ok_iload (dd TL_law_6 14 rfl) 1 rfl ?_
        refine ok_icmp_eq (tgt := 497) (dd TL_law_6 15 rfl) (by decide) ?_ ?_
        · refine ok_iload (dd TL_law_6 18 rfl) 1 rfl ?_
          refine ok_if_ne (tgt := 513) (dd TL_law_6 19 rfl) (by decide) ?_ ?_
          · refine ok_sub [2, 3, 4, 5, 6] rfl ?_
            exact O_L_law_L513 Γ hG b L xs hS0 (F_L_law_L23 b L xs n) ih x1 x2 x3 x4
          · refine ok_aload_n (dd TL_law_6 20 rfl) 5 rfl ?_
            refine ok_iconst (v := (0 : Int32)) (dd TL_law_6 21 rfl) (by decide) ?_
            refine ok_lL (kd := 377) (by decide) rfl (dd TL_law_6 22 rfl) (fun v71 => ?_)
            refine ok_lload (dd TL_law_6 23 rfl) 0 rfl ?_
            refine ok_lcmp (dd TL_law_6 24 rfl) ?_
            refine ok_if_eq (tgt := 513) (dd TL_law_6 25 rfl) (by decide) ?_ ?_
            · refine ok_sub [2, 3, 4, 5, 6] rfl ?_
              exact O_L_law_L513 Γ hG b L xs hS0 (F_L_law_L23 b L xs n) ih x1 x2 x3 x4
            · refine ok_iconst (v := (0 : Int32)) (dd TL_law_6 26 rfl) (by decide) ?_
              exact ok_zreturn (dd TL_law_6 27 rfl) rfl
        · refine ok_iconst (v := (0 : Int32)) (dd TL_law_6 16 rfl) (by decide) ?_
          exact ok_zreturn (dd TL_law_6 17 rfl) rfl
      · show Ok _ _ _ _ 516 _ _ (bn (sLd L xs (x4 + (1 : Int32))) fun v72 => bn (sLd L xs (x4 + (2 : Int32))) fun v73 => if v73 = 0 then F_L_law_L537 b L xs (F_L_law_L23 b L xs n) x1 x2 x3 x4 (0 : Int32) v72 x1 else F_L_law_L537 b L xs (F_L_law_L23 b L xs n) x1 x2 x3 x4 (1 : Int32) v72 x1)
        refine ok_aload_n (dd TL_law_6 29 rfl) 1 rfl ?_
        refine ok_aload_n (dd TL_law_6 30 rfl) 0 rfl ?_
        refine ok_iload (dd TL_law_6 31 rfl) 4 rfl ?_
        refine ok_iconst (v := (1 : Int32)) (dd TL_law_6 32 rfl) (by decide) ?_
        refine ok_iadd (dd TL_law_6 33 rfl) ?_
        refine ok_sld hS0 (dd TL_law_6 34 rfl) (fun v72 => ?_)
        refine ok_aload_n (dd TL_law_6 35 rfl) 0 rfl ?_
        refine ok_iload (dd TL_law_6 36 rfl) 4 rfl ?_
        refine ok_iconst (v := (2 : Int32)) (dd TL_law_6 37 rfl) (by decide) ?_
        refine ok_iadd (dd TL_law_6 38 rfl) ?_
        refine ok_sld hS0 (dd TL_law_6 39 rfl) (fun v73 => ?_)
        refine ok_if_eq (tgt := 536) (dd TL_law_7 0 rfl) (by decide) ?_ ?_
        · refine ok_iconst (v := (0 : Int32)) (dd TL_law_7 3 rfl) (by decide) ?_
          exact O_L_law_L537 Γ hG b L xs hS0 (F_L_law_L23 b L xs n) ih x1 x2 x3 x4 (0 : Int32) v72 x1
        · refine ok_iconst (v := (1 : Int32)) (dd TL_law_7 1 rfl) (by decide) ?_
          refine ok_goto (tgt := 537) (dd TL_law_7 2 rfl) (by decide) ?_
          exact O_L_law_L537 Γ hG b L xs hS0 (F_L_law_L23 b L xs n) ih x1 x2 x3 x4 (1 : Int32) v72 x1
      · show Ok _ _ _ _ 605 _ _ (bn (sLd L xs (x4 + (1 : Int32))) fun v74 => bn (sLd L xs (x4 + (2 : Int32))) fun v75 => bn (pRc 11 x1) fun b76 => bn (F_X11_cancel b76 v74 v75) fun v77 => bn (sLd L xs (x4 + (1 : Int32))) fun v78 => bn (sLd L xs (x4 + (2 : Int32))) fun v79 => bn (pRc 12 x2) fun b80 => bn (F_X12_cancel b80 v78 v79) fun v81 => if v77 = v81 then F_L_law_L1464 b L xs (F_L_law_L23 b L xs n) x1 x2 x3 x4 else rz (0 : Int32))
        refine ok_aload_n (dd TL_law_8 14 rfl) 1 rfl ?_
        refine ok_aload_n (dd TL_law_8 15 rfl) 0 rfl ?_
        refine ok_iload (dd TL_law_8 16 rfl) 4 rfl ?_
        refine ok_iconst (v := (1 : Int32)) (dd TL_law_8 17 rfl) (by decide) ?_
        refine ok_iadd (dd TL_law_8 18 rfl) ?_
        refine ok_sld hS0 (dd TL_law_8 19 rfl) (fun v74 => ?_)
        refine ok_aload_n (dd TL_law_8 20 rfl) 0 rfl ?_
        refine ok_iload (dd TL_law_8 21 rfl) 4 rfl ?_
        refine ok_iconst (v := (2 : Int32)) (dd TL_law_8 22 rfl) (by decide) ?_
        refine ok_iadd (dd TL_law_8 23 rfl) ?_
        refine ok_sld hS0 (dd TL_law_8 24 rfl) (fun v75 => ?_)
        refine ok_callVI (cn := 11) [.int v74, .int v75] [] (fun b76 => C_X11_cancel Γ b76 v74 v75) rfl cy_X11_cancel ml_RL_76 im_X11_cancel se_X11_cancel (by decide) (Nat.le_of_ble_eq_true rfl) rfl (dd TL_law_8 25 rfl) (fun v77 => ?_)
        refine ok_aload_n (dd TL_law_8 26 rfl) 2 rfl ?_
        refine ok_aload_n (dd TL_law_8 27 rfl) 0 rfl ?_
        refine ok_iload (dd TL_law_8 28 rfl) 4 rfl ?_
        refine ok_iconst (v := (1 : Int32)) (dd TL_law_8 29 rfl) (by decide) ?_
        refine ok_iadd (dd TL_law_8 30 rfl) ?_
        refine ok_sld hS0 (dd TL_law_8 31 rfl) (fun v78 => ?_)
        refine ok_aload_n (dd TL_law_8 32 rfl) 0 rfl ?_
        refine ok_iload (dd TL_law_8 33 rfl) 4 rfl ?_
        refine ok_iconst (v := (2 : Int32)) (dd TL_law_8 34 rfl) (by decide) ?_
        refine ok_iadd (dd TL_law_8 35 rfl) ?_
        refine ok_sld hS0 (dd TL_law_8 36 rfl) (fun v79 => ?_)
        refine ok_callVI (cn := 12) [.int v78, .int v79] [.int v77] (fun b80 => C_X12_cancel Γ b80 v78 v79) rfl cy_X12_cancel ml_RL_79 im_X12_cancel se_X12_cancel (by decide) (Nat.le_of_ble_eq_true rfl) rfl (dd TL_law_8 37 rfl) (fun v81 => ?_)
        refine ok_icmp_eq (tgt := 1464) (dd TL_law_8 38 rfl) (by decide) ?_ ?_
        · exact O_L_law_L1464 Γ hG b L xs hS0 (F_L_law_L23 b L xs n) ih x1 x2 x3 x4
        · refine ok_iconst (v := (0 : Int32)) (dd TL_law_8 39 rfl) (by decide) ?_
          exact ok_zreturn (dd TL_law_9 0 rfl) rfl
      · show Ok _ _ _ _ 642 _ _ (bn (sLd L xs (x4 + (1 : Int32))) fun v82 => if v82 = 0 then F_L_law_L657 b L xs (F_L_law_L23 b L xs n) x1 x2 x3 x4 (0 : Int32) x1 else F_L_law_L657 b L xs (F_L_law_L23 b L xs n) x1 x2 x3 x4 (1 : Int32) x1)
        refine ok_aload_n (dd TL_law_9 1 rfl) 1 rfl ?_
        refine ok_aload_n (dd TL_law_9 2 rfl) 0 rfl ?_
        refine ok_iload (dd TL_law_9 3 rfl) 4 rfl ?_
        refine ok_iconst (v := (1 : Int32)) (dd TL_law_9 4 rfl) (by decide) ?_
        refine ok_iadd (dd TL_law_9 5 rfl) ?_
        refine ok_sld hS0 (dd TL_law_9 6 rfl) (fun v82 => ?_)
        refine ok_if_eq (tgt := 656) (dd TL_law_9 7 rfl) (by decide) ?_ ?_
        · refine ok_iconst (v := (0 : Int32)) (dd TL_law_9 10 rfl) (by decide) ?_
          exact O_L_law_L657 Γ hG b L xs hS0 (F_L_law_L23 b L xs n) ih x1 x2 x3 x4 (0 : Int32) x1
        · refine ok_iconst (v := (1 : Int32)) (dd TL_law_9 8 rfl) (by decide) ?_
          refine ok_goto (tgt := 657) (dd TL_law_9 9 rfl) (by decide) ?_
          exact O_L_law_L657 Γ hG b L xs hS0 (F_L_law_L23 b L xs n) ih x1 x2 x3 x4 (1 : Int32) x1
      · show Ok _ _ _ _ 719 _ _ (bn (sLd L xs (x4 + (1 : Int32))) fun v83 => bn (sLd L xs (x4 + (2 : Int32))) fun v84 => bn (pRc 11 x1) fun b85 => bn (F_X11_trade b85 v83 v84) fun v86 => bn (sLd L xs (x4 + (1 : Int32))) fun v87 => bn (sLd L xs (x4 + (2 : Int32))) fun v88 => bn (pRc 12 x2) fun b89 => bn (F_X12_trade b89 v87 v88) fun v90 => if v86 = v90 then F_L_law_L1464 b L xs (F_L_law_L23 b L xs n) x1 x2 x3 x4 else rz (0 : Int32))
        refine ok_aload_n (dd TL_law_10 16 rfl) 1 rfl ?_
        refine ok_aload_n (dd TL_law_10 17 rfl) 0 rfl ?_
        refine ok_iload (dd TL_law_10 18 rfl) 4 rfl ?_
        refine ok_iconst (v := (1 : Int32)) (dd TL_law_10 19 rfl) (by decide) ?_
        refine ok_iadd (dd TL_law_10 20 rfl) ?_
        refine ok_sld hS0 (dd TL_law_10 21 rfl) (fun v83 => ?_)
        refine ok_aload_n (dd TL_law_10 22 rfl) 0 rfl ?_
        refine ok_iload (dd TL_law_10 23 rfl) 4 rfl ?_
        refine ok_iconst (v := (2 : Int32)) (dd TL_law_10 24 rfl) (by decide) ?_
        refine ok_iadd (dd TL_law_10 25 rfl) ?_
        refine ok_sld hS0 (dd TL_law_10 26 rfl) (fun v84 => ?_)
        refine ok_callVI (cn := 11) [.int v83, .int v84] [] (fun b85 => C_X11_trade Γ b85 v83 v84) rfl cy_X11_trade ml_RL_85 im_X11_trade se_X11_trade (by decide) (Nat.le_of_ble_eq_true rfl) rfl (dd TL_law_10 27 rfl) (fun v86 => ?_)
        refine ok_aload_n (dd TL_law_10 28 rfl) 2 rfl ?_
        refine ok_aload_n (dd TL_law_10 29 rfl) 0 rfl ?_
        refine ok_iload (dd TL_law_10 30 rfl) 4 rfl ?_
        refine ok_iconst (v := (1 : Int32)) (dd TL_law_10 31 rfl) (by decide) ?_
        refine ok_iadd (dd TL_law_10 32 rfl) ?_
        refine ok_sld hS0 (dd TL_law_10 33 rfl) (fun v87 => ?_)
        refine ok_aload_n (dd TL_law_10 34 rfl) 0 rfl ?_
        refine ok_iload (dd TL_law_10 35 rfl) 4 rfl ?_
        refine ok_iconst (v := (2 : Int32)) (dd TL_law_10 36 rfl) (by decide) ?_
        refine ok_iadd (dd TL_law_10 37 rfl) ?_
        refine ok_sld hS0 (dd TL_law_10 38 rfl) (fun v88 => ?_)
        refine ok_callVI (cn := 12) [.int v87, .int v88] [.int v86] (fun b89 => C_X12_trade Γ b89 v87 v88) rfl cy_X12_trade ml_RL_88 im_X12_trade se_X12_trade (by decide) (Nat.le_of_ble_eq_true rfl) rfl (dd TL_law_10 39 rfl) (fun v90 => ?_)
        refine ok_icmp_eq (tgt := 1464) (dd TL_law_11 0 rfl) (by decide) ?_ ?_
        · exact O_L_law_L1464 Γ hG b L xs hS0 (F_L_law_L23 b L xs n) ih x1 x2 x3 x4
        · refine ok_iconst (v := (0 : Int32)) (dd TL_law_11 1 rfl) (by decide) ?_
          exact ok_zreturn (dd TL_law_11 2 rfl) rfl
      · show Ok _ _ _ _ 756 _ _ (bn (sLd L xs (x4 + (1 : Int32))) fun v91 => bn (pRc 11 x1) fun b92 => bn (F_X11_strike b92 v91) fun v93 => bn (sLd L xs (x4 + (1 : Int32))) fun v94 => bn (pRc 12 x2) fun b95 => bn (F_X12_strike b95 v94) fun v96 => if v93 = v96 then F_L_law_L1464 b L xs (F_L_law_L23 b L xs n) x1 x2 x3 x4 else rz (0 : Int32))
        refine ok_aload_n (dd TL_law_11 3 rfl) 1 rfl ?_
        refine ok_aload_n (dd TL_law_11 4 rfl) 0 rfl ?_
        refine ok_iload (dd TL_law_11 5 rfl) 4 rfl ?_
        refine ok_iconst (v := (1 : Int32)) (dd TL_law_11 6 rfl) (by decide) ?_
        refine ok_iadd (dd TL_law_11 7 rfl) ?_
        refine ok_sld hS0 (dd TL_law_11 8 rfl) (fun v91 => ?_)
        refine ok_callVI (cn := 11) [.int v91] [] (fun b92 => C_X11_strike Γ b92 v91) rfl cy_X11_strike ml_RL_89 im_X11_strike se_X11_strike (by decide) (Nat.le_of_ble_eq_true rfl) rfl (dd TL_law_11 9 rfl) (fun v93 => ?_)
        refine ok_aload_n (dd TL_law_11 10 rfl) 2 rfl ?_
        refine ok_aload_n (dd TL_law_11 11 rfl) 0 rfl ?_
        refine ok_iload (dd TL_law_11 12 rfl) 4 rfl ?_
        refine ok_iconst (v := (1 : Int32)) (dd TL_law_11 13 rfl) (by decide) ?_
        refine ok_iadd (dd TL_law_11 14 rfl) ?_
        refine ok_sld hS0 (dd TL_law_11 15 rfl) (fun v94 => ?_)
        refine ok_callVI (cn := 12) [.int v94] [.int v93] (fun b95 => C_X12_strike Γ b95 v94) rfl cy_X12_strike ml_RL_92 im_X12_strike se_X12_strike (by decide) (Nat.le_of_ble_eq_true rfl) rfl (dd TL_law_11 16 rfl) (fun v96 => ?_)
        refine ok_icmp_eq (tgt := 1464) (dd TL_law_11 17 rfl) (by decide) ?_ ?_
        · exact O_L_law_L1464 Γ hG b L xs hS0 (F_L_law_L23 b L xs n) ih x1 x2 x3 x4
        · refine ok_iconst (v := (0 : Int32)) (dd TL_law_11 18 rfl) (by decide) ?_
          exact ok_zreturn (dd TL_law_11 19 rfl) rfl
      · show Ok _ _ _ _ 781 _ _ (bn (pRc 11 x1) fun b97 => bn (F_X11_night b97) fun v98 => bn (pRc 12 x2) fun b99 => bn (F_X12_night b99) fun v100 => if v98 = v100 then F_L_law_L1464 b L xs (F_L_law_L23 b L xs n) x1 x2 x3 x4 else rz (0 : Int32))
        refine ok_aload_n (dd TL_law_11 20 rfl) 1 rfl ?_
        refine ok_callVI (cn := 11) [] [] (fun b97 => C_X11_night Γ b97) rfl cy_X11_night ml_RL_93 im_X11_night se_X11_night (by decide) (Nat.le_of_ble_eq_true rfl) rfl (dd TL_law_11 21 rfl) (fun v98 => ?_)
        refine ok_aload_n (dd TL_law_11 22 rfl) 2 rfl ?_
        refine ok_callVI (cn := 12) [] [.int v98] (fun b99 => C_X12_night Γ b99) rfl cy_X12_night ml_RL_96 im_X12_night se_X12_night (by decide) (Nat.le_of_ble_eq_true rfl) rfl (dd TL_law_11 23 rfl) (fun v100 => ?_)
        refine ok_icmp_eq (tgt := 1464) (dd TL_law_11 24 rfl) (by decide) ?_ ?_
        · exact O_L_law_L1464 Γ hG b L xs hS0 (F_L_law_L23 b L xs n) ih x1 x2 x3 x4
        · refine ok_iconst (v := (0 : Int32)) (dd TL_law_11 25 rfl) (by decide) ?_
          exact ok_zreturn (dd TL_law_11 26 rfl) rfl
      · show Ok _ _ _ _ 794 _ _ (bn (sLd L xs (x4 + (1 : Int32))) fun v101 => bn (sLd L xs (x4 + (2 : Int32))) fun v102 => bn (F_L_money x1 v101 v102 x3) fun v103 => bn (sLd L xs (x4 + (1 : Int32))) fun v104 => bn (sLd L xs (x4 + (2 : Int32))) fun v105 => bn (pRc 12 x2) fun b106 => bn (F_X12_money b106 v104 v105) fun v107 => bn (pRc 12 x2) fun b108 => bn (F_X12_thrown b108) fun v109 => if v109 = v103 then if ¬ v103 = 0 then F_L_law_L858 b L xs (F_L_law_L23 b L xs n) x1 x2 x3 x4 else bn (lL 377 x3 (0 : Int32)) fun v110 => if (lg_cmp v110 v107) = 0 then F_L_law_L858 b L xs (F_L_law_L23 b L xs n) x1 x2 x3 x4 else rz (0 : Int32) else rz (0 : Int32))
        refine ok_aload_n (dd TL_law_11 27 rfl) 1 rfl ?_
        refine ok_aload_n (dd TL_law_11 28 rfl) 0 rfl ?_
        refine ok_iload (dd TL_law_11 29 rfl) 4 rfl ?_
        refine ok_iconst (v := (1 : Int32)) (dd TL_law_11 30 rfl) (by decide) ?_
        refine ok_iadd (dd TL_law_11 31 rfl) ?_
        refine ok_sld hS0 (dd TL_law_11 32 rfl) (fun v101 => ?_)
        refine ok_aload_n (dd TL_law_11 33 rfl) 0 rfl ?_
        refine ok_iload (dd TL_law_11 34 rfl) 4 rfl ?_
        refine ok_iconst (v := (2 : Int32)) (dd TL_law_11 35 rfl) (by decide) ?_
        refine ok_iadd (dd TL_law_11 36 rfl) ?_
        refine ok_sld hS0 (dd TL_law_11 37 rfl) (fun v102 => ?_)
        refine ok_aload_n (dd TL_law_11 38 rfl) 3 rfl ?_
        refine ok_callSH [va_rf x1, .int v101, .int v102, va_rf x3] [] (C_L_money Γ hG x1 v101 v102 x3) ch_L_money ml_RL_97 sm_L_money (by decide) (Nat.le_of_ble_eq_true rfl) rfl (dd TL_law_11 39 rfl) (fun v103 => ?_)
        refine ok_istore (lv' := [(5, .int v103), (0, va_rf (some b)), (1, va_rf x1), (2, va_rf x2), (3, va_rf x3), (4, .int x4)]) (dd TL_law_12 0 rfl) (by decide) (by first | rfl | (simp only [List.filter, cat_rf]; rfl)) ?_
        refine ok_aload_n (dd TL_law_12 1 rfl) 3 rfl ?_
        refine ok_aload_n (dd TL_law_12 2 rfl) 1 rfl ?_
        refine ok_iload (dd TL_law_12 3 rfl) 5 rfl ?_
        refine ok_iconst (v := (1 : Int32)) (dd TL_law_12 4 rfl) (by decide) ?_
        refine ok_iadd (dd TL_law_12 5 rfl) ?_
        refine ok_sld hS0 (dd TL_law_12 6 rfl) (fun v104 => ?_)
        refine ok_aload_n (dd TL_law_12 7 rfl) 1 rfl ?_
        refine ok_iload (dd TL_law_12 8 rfl) 5 rfl ?_
        refine ok_iconst (v := (2 : Int32)) (dd TL_law_12 9 rfl) (by decide) ?_
        refine ok_iadd (dd TL_law_12 10 rfl) ?_
        refine ok_sld hS0 (dd TL_law_12 11 rfl) (fun v105 => ?_)
        refine ok_callVL (cn := 12) [.int v104, .int v105] [] (fun b106 => C_X12_money Γ b106 v104 v105) rfl cy_X12_money ml_RL_99 im_X12_money se_X12_money (by decide) (Nat.le_of_ble_eq_true rfl) rfl (dd TL_law_12 12 rfl) (fun v107 => ?_)
        refine ok_lstore (lv' := [(6, .long v107), (5, .int v103), (0, va_rf (some b)), (1, va_rf x1), (2, va_rf x2), (3, va_rf x3), (4, .int x4)]) (dd TL_law_12 13 rfl) (by decide) (by first | rfl | (simp only [List.filter, cat_rf]; rfl)) ?_
        refine ok_aload_n (dd TL_law_12 14 rfl) 4 rfl ?_
        refine ok_callVI (cn := 12) [] [] (fun b108 => C_X12_thrown Γ b108) rfl cy_X12_thrown ml_RL_60 im_X12_thrown se_X12_thrown (by decide) (Nat.le_of_ble_eq_true rfl) rfl (dd TL_law_12 15 rfl) (fun v109 => ?_)
        refine ok_iload (dd TL_law_12 16 rfl) 1 rfl ?_
        refine ok_icmp_eq (tgt := 842) (dd TL_law_12 17 rfl) (by decide) ?_ ?_
        · refine ok_iload (dd TL_law_12 20 rfl) 1 rfl ?_
          refine ok_if_ne (tgt := 858) (dd TL_law_12 21 rfl) (by decide) ?_ ?_
          · refine ok_sub [2, 3, 4, 5, 6] rfl ?_
            exact O_L_law_L858 Γ hG b L xs hS0 (F_L_law_L23 b L xs n) ih x1 x2 x3 x4
          · refine ok_aload_n (dd TL_law_12 22 rfl) 5 rfl ?_
            refine ok_iconst (v := (0 : Int32)) (dd TL_law_12 23 rfl) (by decide) ?_
            refine ok_lL (kd := 377) (by decide) rfl (dd TL_law_12 24 rfl) (fun v110 => ?_)
            refine ok_lload (dd TL_law_12 25 rfl) 0 rfl ?_
            refine ok_lcmp (dd TL_law_12 26 rfl) ?_
            refine ok_if_eq (tgt := 858) (dd TL_law_12 27 rfl) (by decide) ?_ ?_
            · refine ok_sub [2, 3, 4, 5, 6] rfl ?_
              exact O_L_law_L858 Γ hG b L xs hS0 (F_L_law_L23 b L xs n) ih x1 x2 x3 x4
            · refine ok_iconst (v := (0 : Int32)) (dd TL_law_12 28 rfl) (by decide) ?_
              exact ok_zreturn (dd TL_law_12 29 rfl) rfl
        · refine ok_iconst (v := (0 : Int32)) (dd TL_law_12 18 rfl) (by decide) ?_
          exact ok_zreturn (dd TL_law_12 19 rfl) rfl
      · show Ok _ _ _ _ 861 _ _ (bn (sLd L xs (x4 + (1 : Int32))) fun v111 => bn (sLd L xs (x4 + (2 : Int32))) fun v112 => bn (F_L_position x1 v111 v112 x3) fun v113 => bn (sLd L xs (x4 + (1 : Int32))) fun v114 => bn (sLd L xs (x4 + (2 : Int32))) fun v115 => bn (pRc 12 x2) fun b116 => bn (F_X12_position b116 v114 v115) fun v117 => bn (pRc 12 x2) fun b118 => bn (F_X12_thrown b118) fun v119 => if v119 = v113 then if ¬ v113 = 0 then F_L_law_L926 b L xs (F_L_law_L23 b L xs n) x1 x2 x3 x4 else bn (lL 377 x3 (0 : Int32)) fun v120 => if (lg_cmp v120 v117.toInt64) = 0 then F_L_law_L926 b L xs (F_L_law_L23 b L xs n) x1 x2 x3 x4 else rz (0 : Int32) else rz (0 : Int32))
        refine ok_aload_n (dd TL_law_12 31 rfl) 1 rfl ?_
        refine ok_aload_n (dd TL_law_12 32 rfl) 0 rfl ?_
        refine ok_iload (dd TL_law_12 33 rfl) 4 rfl ?_
        refine ok_iconst (v := (1 : Int32)) (dd TL_law_12 34 rfl) (by decide) ?_
        refine ok_iadd (dd TL_law_12 35 rfl) ?_
        refine ok_sld hS0 (dd TL_law_12 36 rfl) (fun v111 => ?_)
        refine ok_aload_n (dd TL_law_12 37 rfl) 0 rfl ?_
        refine ok_iload (dd TL_law_12 38 rfl) 4 rfl ?_
        refine ok_iconst (v := (2 : Int32)) (dd TL_law_12 39 rfl) (by decide) ?_
        refine ok_iadd (dd TL_law_13 0 rfl) ?_
        refine ok_sld hS0 (dd TL_law_13 1 rfl) (fun v112 => ?_)
        refine ok_aload_n (dd TL_law_13 2 rfl) 3 rfl ?_
        refine ok_callSH [va_rf x1, .int v111, .int v112, va_rf x3] [] (C_L_position Γ hG x1 v111 v112 x3) ch_L_position ml_RL_100 sm_L_position (by decide) (Nat.le_of_ble_eq_true rfl) rfl (dd TL_law_13 3 rfl) (fun v113 => ?_)
        refine ok_istore (lv' := [(5, .int v113), (0, va_rf (some b)), (1, va_rf x1), (2, va_rf x2), (3, va_rf x3), (4, .int x4)]) (dd TL_law_13 4 rfl) (by decide) (by first | rfl | (simp only [List.filter, cat_rf]; rfl)) ?_
        refine ok_aload_n (dd TL_law_13 5 rfl) 3 rfl ?_
        refine ok_aload_n (dd TL_law_13 6 rfl) 1 rfl ?_
        refine ok_iload (dd TL_law_13 7 rfl) 5 rfl ?_
        refine ok_iconst (v := (1 : Int32)) (dd TL_law_13 8 rfl) (by decide) ?_
        refine ok_iadd (dd TL_law_13 9 rfl) ?_
        refine ok_sld hS0 (dd TL_law_13 10 rfl) (fun v114 => ?_)
        refine ok_aload_n (dd TL_law_13 11 rfl) 1 rfl ?_
        refine ok_iload (dd TL_law_13 12 rfl) 5 rfl ?_
        refine ok_iconst (v := (2 : Int32)) (dd TL_law_13 13 rfl) (by decide) ?_
        refine ok_iadd (dd TL_law_13 14 rfl) ?_
        refine ok_sld hS0 (dd TL_law_13 15 rfl) (fun v115 => ?_)
        refine ok_callVI (cn := 12) [.int v114, .int v115] [] (fun b116 => C_X12_position Γ b116 v114 v115) rfl cy_X12_position ml_RL_102 im_X12_position se_X12_position (by decide) (Nat.le_of_ble_eq_true rfl) rfl (dd TL_law_13 16 rfl) (fun v117 => ?_)
        refine ok_istore (lv' := [(6, .int v117), (5, .int v113), (0, va_rf (some b)), (1, va_rf x1), (2, va_rf x2), (3, va_rf x3), (4, .int x4)]) (dd TL_law_13 17 rfl) (by decide) (by first | rfl | (simp only [List.filter, cat_rf]; rfl)) ?_
        refine ok_aload_n (dd TL_law_13 18 rfl) 4 rfl ?_
        refine ok_callVI (cn := 12) [] [] (fun b118 => C_X12_thrown Γ b118) rfl cy_X12_thrown ml_RL_60 im_X12_thrown se_X12_thrown (by decide) (Nat.le_of_ble_eq_true rfl) rfl (dd TL_law_13 19 rfl) (fun v119 => ?_)
        refine ok_iload (dd TL_law_13 20 rfl) 1 rfl ?_
        refine ok_icmp_eq (tgt := 909) (dd TL_law_13 21 rfl) (by decide) ?_ ?_
        · refine ok_iload (dd TL_law_13 24 rfl) 1 rfl ?_
          refine ok_if_ne (tgt := 926) (dd TL_law_13 25 rfl) (by decide) ?_ ?_
          · refine ok_sub [2, 3, 4, 5, 6] rfl ?_
            exact O_L_law_L926 Γ hG b L xs hS0 (F_L_law_L23 b L xs n) ih x1 x2 x3 x4
          · refine ok_aload_n (dd TL_law_13 26 rfl) 5 rfl ?_
            refine ok_iconst (v := (0 : Int32)) (dd TL_law_13 27 rfl) (by decide) ?_
            refine ok_lL (kd := 377) (by decide) rfl (dd TL_law_13 28 rfl) (fun v120 => ?_)
            refine ok_iload (dd TL_law_13 29 rfl) 0 rfl ?_
            refine ok_i2l (dd TL_law_13 30 rfl) ?_
            refine ok_lcmp (dd TL_law_13 31 rfl) ?_
            refine ok_if_eq (tgt := 926) (dd TL_law_13 32 rfl) (by decide) ?_ ?_
            · refine ok_sub [2, 3, 4, 5, 6] rfl ?_
              exact O_L_law_L926 Γ hG b L xs hS0 (F_L_law_L23 b L xs n) ih x1 x2 x3 x4
            · refine ok_iconst (v := (0 : Int32)) (dd TL_law_13 33 rfl) (by decide) ?_
              exact ok_zreturn (dd TL_law_13 34 rfl) rfl
        · refine ok_iconst (v := (0 : Int32)) (dd TL_law_13 22 rfl) (by decide) ?_
          exact ok_zreturn (dd TL_law_13 23 rfl) rfl
      · show Ok _ _ _ _ 929 _ _ (bn (sLd L xs (x4 + (1 : Int32))) fun v121 => bn (sLd L xs (x4 + (2 : Int32))) fun v122 => bn (sLd L xs (x4 + (3 : Int32))) fun v123 => bn (pRc 11 x1) fun b124 => bn (F_X11_longOf b124 v121 v122 v123) fun v125 => bn (sLd L xs (x4 + (1 : Int32))) fun v126 => bn (sLd L xs (x4 + (2 : Int32))) fun v127 => bn (sLd L xs (x4 + (3 : Int32))) fun v128 => bn (pRc 12 x2) fun b129 => bn (F_X12_longOf b129 v126 v127 v128) fun v130 => if v125 = v130 then F_L_law_L1464 b L xs (F_L_law_L23 b L xs n) x1 x2 x3 x4 else rz (0 : Int32))
        refine ok_aload_n (dd TL_law_13 36 rfl) 1 rfl ?_
        refine ok_aload_n (dd TL_law_13 37 rfl) 0 rfl ?_
        refine ok_iload (dd TL_law_13 38 rfl) 4 rfl ?_
        refine ok_iconst (v := (1 : Int32)) (dd TL_law_13 39 rfl) (by decide) ?_
        refine ok_iadd (dd TL_law_14 0 rfl) ?_
        refine ok_sld hS0 (dd TL_law_14 1 rfl) (fun v121 => ?_)
        refine ok_aload_n (dd TL_law_14 2 rfl) 0 rfl ?_
        refine ok_iload (dd TL_law_14 3 rfl) 4 rfl ?_
        refine ok_iconst (v := (2 : Int32)) (dd TL_law_14 4 rfl) (by decide) ?_
        refine ok_iadd (dd TL_law_14 5 rfl) ?_
        refine ok_sld hS0 (dd TL_law_14 6 rfl) (fun v122 => ?_)
        refine ok_aload_n (dd TL_law_14 7 rfl) 0 rfl ?_
        refine ok_iload (dd TL_law_14 8 rfl) 4 rfl ?_
        refine ok_iconst (v := (3 : Int32)) (dd TL_law_14 9 rfl) (by decide) ?_
        refine ok_iadd (dd TL_law_14 10 rfl) ?_
        refine ok_sld hS0 (dd TL_law_14 11 rfl) (fun v123 => ?_)
        refine ok_callVI (cn := 11) [.int v121, .int v122, .int v123] [] (fun b124 => C_X11_longOf Γ b124 v121 v122 v123) rfl cy_X11_longOf ml_RL_103 im_X11_longOf se_X11_longOf (by decide) (Nat.le_of_ble_eq_true rfl) rfl (dd TL_law_14 12 rfl) (fun v125 => ?_)
        refine ok_aload_n (dd TL_law_14 13 rfl) 2 rfl ?_
        refine ok_aload_n (dd TL_law_14 14 rfl) 0 rfl ?_
        refine ok_iload (dd TL_law_14 15 rfl) 4 rfl ?_
        refine ok_iconst (v := (1 : Int32)) (dd TL_law_14 16 rfl) (by decide) ?_
        refine ok_iadd (dd TL_law_14 17 rfl) ?_
        refine ok_sld hS0 (dd TL_law_14 18 rfl) (fun v126 => ?_)
        refine ok_aload_n (dd TL_law_14 19 rfl) 0 rfl ?_
        refine ok_iload (dd TL_law_14 20 rfl) 4 rfl ?_
        refine ok_iconst (v := (2 : Int32)) (dd TL_law_14 21 rfl) (by decide) ?_
        refine ok_iadd (dd TL_law_14 22 rfl) ?_
        refine ok_sld hS0 (dd TL_law_14 23 rfl) (fun v127 => ?_)
        refine ok_aload_n (dd TL_law_14 24 rfl) 0 rfl ?_
        refine ok_iload (dd TL_law_14 25 rfl) 4 rfl ?_
        refine ok_iconst (v := (3 : Int32)) (dd TL_law_14 26 rfl) (by decide) ?_
        refine ok_iadd (dd TL_law_14 27 rfl) ?_
        refine ok_sld hS0 (dd TL_law_14 28 rfl) (fun v128 => ?_)
        refine ok_callVI (cn := 12) [.int v126, .int v127, .int v128] [.int v125] (fun b129 => C_X12_longOf Γ b129 v126 v127 v128) rfl cy_X12_longOf ml_RL_107 im_X12_longOf se_X12_longOf (by decide) (Nat.le_of_ble_eq_true rfl) rfl (dd TL_law_14 29 rfl) (fun v130 => ?_)
        refine ok_icmp_eq (tgt := 1464) (dd TL_law_14 30 rfl) (by decide) ?_ ?_
        · exact O_L_law_L1464 Γ hG b L xs hS0 (F_L_law_L23 b L xs n) ih x1 x2 x3 x4
        · refine ok_iconst (v := (0 : Int32)) (dd TL_law_14 31 rfl) (by decide) ?_
          exact ok_zreturn (dd TL_law_14 32 rfl) rfl
      · show Ok _ _ _ _ 978 _ _ (bn (sLd L xs (x4 + (1 : Int32))) fun v131 => bn (pRc 11 x1) fun b132 => bn (F_X11_count b132 v131) fun v133 => bn (sLd L xs (x4 + (1 : Int32))) fun v134 => bn (pRc 12 x2) fun b135 => bn (F_X12_count b135 v134) fun v136 => if v133 = v136 then F_L_law_L1464 b L xs (F_L_law_L23 b L xs n) x1 x2 x3 x4 else rz (0 : Int32))
        refine ok_aload_n (dd TL_law_14 33 rfl) 1 rfl ?_
        refine ok_aload_n (dd TL_law_14 34 rfl) 0 rfl ?_
        refine ok_iload (dd TL_law_14 35 rfl) 4 rfl ?_
        refine ok_iconst (v := (1 : Int32)) (dd TL_law_14 36 rfl) (by decide) ?_
        refine ok_iadd (dd TL_law_14 37 rfl) ?_
        refine ok_sld hS0 (dd TL_law_14 38 rfl) (fun v131 => ?_)
        refine ok_callVI (cn := 11) [.int v131] [] (fun b132 => C_X11_count Γ b132 v131) rfl cy_X11_count ml_RL_108 im_X11_count se_X11_count (by decide) (Nat.le_of_ble_eq_true rfl) rfl (dd TL_law_14 39 rfl) (fun v133 => ?_)
        refine ok_aload_n (dd TL_law_15 0 rfl) 2 rfl ?_
        refine ok_aload_n (dd TL_law_15 1 rfl) 0 rfl ?_
        refine ok_iload (dd TL_law_15 2 rfl) 4 rfl ?_
        refine ok_iconst (v := (1 : Int32)) (dd TL_law_15 3 rfl) (by decide) ?_
        refine ok_iadd (dd TL_law_15 4 rfl) ?_
        refine ok_sld hS0 (dd TL_law_15 5 rfl) (fun v134 => ?_)
        refine ok_callVI (cn := 12) [.int v134] [.int v133] (fun b135 => C_X12_count Γ b135 v134) rfl cy_X12_count ml_RL_111 im_X12_count se_X12_count (by decide) (Nat.le_of_ble_eq_true rfl) rfl (dd TL_law_15 6 rfl) (fun v136 => ?_)
        refine ok_icmp_eq (tgt := 1464) (dd TL_law_15 7 rfl) (by decide) ?_ ?_
        · exact O_L_law_L1464 Γ hG b L xs hS0 (F_L_law_L23 b L xs n) ih x1 x2 x3 x4
        · refine ok_iconst (v := (0 : Int32)) (dd TL_law_15 8 rfl) (by decide) ?_
          exact ok_zreturn (dd TL_law_15 9 rfl) rfl
      · show Ok _ _ _ _ 1003 _ _ (bn (sLd L xs (x4 + (1 : Int32))) fun v137 => bn (pRc 11 x1) fun b138 => bn (F_X11_deliver b138 v137) fun v139 => bn (sLd L xs (x4 + (1 : Int32))) fun v140 => bn (pRc 12 x2) fun b141 => bn (F_X12_deliver b141 v140) fun v142 => if v139 = v142 then F_L_law_L1464 b L xs (F_L_law_L23 b L xs n) x1 x2 x3 x4 else rz (0 : Int32))
        refine ok_aload_n (dd TL_law_15 10 rfl) 1 rfl ?_
        refine ok_aload_n (dd TL_law_15 11 rfl) 0 rfl ?_
        refine ok_iload (dd TL_law_15 12 rfl) 4 rfl ?_
        refine ok_iconst (v := (1 : Int32)) (dd TL_law_15 13 rfl) (by decide) ?_
        refine ok_iadd (dd TL_law_15 14 rfl) ?_
        refine ok_sld hS0 (dd TL_law_15 15 rfl) (fun v137 => ?_)
        refine ok_callVI (cn := 11) [.int v137] [] (fun b138 => C_X11_deliver Γ b138 v137) rfl cy_X11_deliver ml_RL_112 im_X11_deliver se_X11_deliver (by decide) (Nat.le_of_ble_eq_true rfl) rfl (dd TL_law_15 16 rfl) (fun v139 => ?_)
        refine ok_aload_n (dd TL_law_15 17 rfl) 2 rfl ?_
        refine ok_aload_n (dd TL_law_15 18 rfl) 0 rfl ?_
        refine ok_iload (dd TL_law_15 19 rfl) 4 rfl ?_
        refine ok_iconst (v := (1 : Int32)) (dd TL_law_15 20 rfl) (by decide) ?_
        refine ok_iadd (dd TL_law_15 21 rfl) ?_
        refine ok_sld hS0 (dd TL_law_15 22 rfl) (fun v140 => ?_)
        refine ok_callVI (cn := 12) [.int v140] [.int v139] (fun b141 => C_X12_deliver Γ b141 v140) rfl cy_X12_deliver ml_RL_115 im_X12_deliver se_X12_deliver (by decide) (Nat.le_of_ble_eq_true rfl) rfl (dd TL_law_15 23 rfl) (fun v142 => ?_)
        refine ok_icmp_eq (tgt := 1464) (dd TL_law_15 24 rfl) (by decide) ?_ ?_
        · exact O_L_law_L1464 Γ hG b L xs hS0 (F_L_law_L23 b L xs n) ih x1 x2 x3 x4
        · refine ok_iconst (v := (0 : Int32)) (dd TL_law_15 25 rfl) (by decide) ?_
          exact ok_zreturn (dd TL_law_15 26 rfl) rfl
      · show Ok _ _ _ _ 1028 _ _ (bn (sLd L xs (x4 + (1 : Int32))) fun v143 => bn (sLd L xs (x4 + (2 : Int32))) fun v144 => bn (sLd L xs (x4 + (3 : Int32))) fun v145 => bn (pRc 11 x1) fun b146 => bn (F_X11_receipt b146 v143 v144 v145) fun v147 => bn (sLd L xs (x4 + (1 : Int32))) fun v148 => bn (sLd L xs (x4 + (2 : Int32))) fun v149 => bn (sLd L xs (x4 + (3 : Int32))) fun v150 => bn (pRc 12 x2) fun b151 => bn (F_X12_receipt b151 v148 v149 v150) fun v152 => if v147 = v152 then F_L_law_L1464 b L xs (F_L_law_L23 b L xs n) x1 x2 x3 x4 else rz (0 : Int32))
        refine ok_aload_n (dd TL_law_15 27 rfl) 1 rfl ?_
        refine ok_aload_n (dd TL_law_15 28 rfl) 0 rfl ?_
        refine ok_iload (dd TL_law_15 29 rfl) 4 rfl ?_
        refine ok_iconst (v := (1 : Int32)) (dd TL_law_15 30 rfl) (by decide) ?_
        refine ok_iadd (dd TL_law_15 31 rfl) ?_
        refine ok_sld hS0 (dd TL_law_15 32 rfl) (fun v143 => ?_)
        refine ok_aload_n (dd TL_law_15 33 rfl) 0 rfl ?_
        refine ok_iload (dd TL_law_15 34 rfl) 4 rfl ?_
        refine ok_iconst (v := (2 : Int32)) (dd TL_law_15 35 rfl) (by decide) ?_
        refine ok_iadd (dd TL_law_15 36 rfl) ?_
        refine ok_sld hS0 (dd TL_law_15 37 rfl) (fun v144 => ?_)
        refine ok_aload_n (dd TL_law_15 38 rfl) 0 rfl ?_
        refine ok_iload (dd TL_law_15 39 rfl) 4 rfl ?_
        refine ok_iconst (v := (3 : Int32)) (dd TL_law_16 0 rfl) (by decide) ?_
        refine ok_iadd (dd TL_law_16 1 rfl) ?_
        refine ok_sld hS0 (dd TL_law_16 2 rfl) (fun v145 => ?_)
        refine ok_callVI (cn := 11) [.int v143, .int v144, .int v145] [] (fun b146 => C_X11_receipt Γ b146 v143 v144 v145) rfl cy_X11_receipt ml_RL_116 im_X11_receipt se_X11_receipt (by decide) (Nat.le_of_ble_eq_true rfl) rfl (dd TL_law_16 3 rfl) (fun v147 => ?_)
        refine ok_aload_n (dd TL_law_16 4 rfl) 2 rfl ?_
        refine ok_aload_n (dd TL_law_16 5 rfl) 0 rfl ?_
        refine ok_iload (dd TL_law_16 6 rfl) 4 rfl ?_
        refine ok_iconst (v := (1 : Int32)) (dd TL_law_16 7 rfl) (by decide) ?_
        refine ok_iadd (dd TL_law_16 8 rfl) ?_
        refine ok_sld hS0 (dd TL_law_16 9 rfl) (fun v148 => ?_)
        refine ok_aload_n (dd TL_law_16 10 rfl) 0 rfl ?_
        refine ok_iload (dd TL_law_16 11 rfl) 4 rfl ?_
        refine ok_iconst (v := (2 : Int32)) (dd TL_law_16 12 rfl) (by decide) ?_
        refine ok_iadd (dd TL_law_16 13 rfl) ?_
        refine ok_sld hS0 (dd TL_law_16 14 rfl) (fun v149 => ?_)
        refine ok_aload_n (dd TL_law_16 15 rfl) 0 rfl ?_
        refine ok_iload (dd TL_law_16 16 rfl) 4 rfl ?_
        refine ok_iconst (v := (3 : Int32)) (dd TL_law_16 17 rfl) (by decide) ?_
        refine ok_iadd (dd TL_law_16 18 rfl) ?_
        refine ok_sld hS0 (dd TL_law_16 19 rfl) (fun v150 => ?_)
        refine ok_callVI (cn := 12) [.int v148, .int v149, .int v150] [.int v147] (fun b151 => C_X12_receipt Γ b151 v148 v149 v150) rfl cy_X12_receipt ml_RL_119 im_X12_receipt se_X12_receipt (by decide) (Nat.le_of_ble_eq_true rfl) rfl (dd TL_law_16 20 rfl) (fun v152 => ?_)
        refine ok_icmp_eq (tgt := 1464) (dd TL_law_16 21 rfl) (by decide) ?_ ?_
        · exact O_L_law_L1464 Γ hG b L xs hS0 (F_L_law_L23 b L xs n) ih x1 x2 x3 x4
        · refine ok_iconst (v := (0 : Int32)) (dd TL_law_16 22 rfl) (by decide) ?_
          exact ok_zreturn (dd TL_law_16 23 rfl) rfl
      · show Ok _ _ _ _ 1077 _ _ (bn (sLd L xs (x4 + (1 : Int32))) fun v153 => bn (sLd L xs (x4 + (2 : Int32))) fun v154 => bn (sLd L xs (x4 + (3 : Int32))) fun v155 => bn (pRc 11 x1) fun b156 => bn (F_X11_notice b156 v153 v154 v155) fun v157 => bn (sLd L xs (x4 + (1 : Int32))) fun v158 => bn (sLd L xs (x4 + (2 : Int32))) fun v159 => bn (sLd L xs (x4 + (3 : Int32))) fun v160 => bn (pRc 12 x2) fun b161 => bn (F_X12_notice b161 v158 v159 v160) fun v162 => if v157 = v162 then F_L_law_L1464 b L xs (F_L_law_L23 b L xs n) x1 x2 x3 x4 else rz (0 : Int32))
        refine ok_aload_n (dd TL_law_16 24 rfl) 1 rfl ?_
        refine ok_aload_n (dd TL_law_16 25 rfl) 0 rfl ?_
        refine ok_iload (dd TL_law_16 26 rfl) 4 rfl ?_
        refine ok_iconst (v := (1 : Int32)) (dd TL_law_16 27 rfl) (by decide) ?_
        refine ok_iadd (dd TL_law_16 28 rfl) ?_
        refine ok_sld hS0 (dd TL_law_16 29 rfl) (fun v153 => ?_)
        refine ok_aload_n (dd TL_law_16 30 rfl) 0 rfl ?_
        refine ok_iload (dd TL_law_16 31 rfl) 4 rfl ?_
        refine ok_iconst (v := (2 : Int32)) (dd TL_law_16 32 rfl) (by decide) ?_
        refine ok_iadd (dd TL_law_16 33 rfl) ?_
        refine ok_sld hS0 (dd TL_law_16 34 rfl) (fun v154 => ?_)
        refine ok_aload_n (dd TL_law_16 35 rfl) 0 rfl ?_
        refine ok_iload (dd TL_law_16 36 rfl) 4 rfl ?_
        refine ok_iconst (v := (3 : Int32)) (dd TL_law_16 37 rfl) (by decide) ?_
        refine ok_iadd (dd TL_law_16 38 rfl) ?_
        refine ok_sld hS0 (dd TL_law_16 39 rfl) (fun v155 => ?_)
        refine ok_callVI (cn := 11) [.int v153, .int v154, .int v155] [] (fun b156 => C_X11_notice Γ b156 v153 v154 v155) rfl cy_X11_notice ml_RL_120 im_X11_notice se_X11_notice (by decide) (Nat.le_of_ble_eq_true rfl) rfl (dd TL_law_17 0 rfl) (fun v157 => ?_)
        refine ok_aload_n (dd TL_law_17 1 rfl) 2 rfl ?_
        refine ok_aload_n (dd TL_law_17 2 rfl) 0 rfl ?_
        refine ok_iload (dd TL_law_17 3 rfl) 4 rfl ?_
        refine ok_iconst (v := (1 : Int32)) (dd TL_law_17 4 rfl) (by decide) ?_
        refine ok_iadd (dd TL_law_17 5 rfl) ?_
        refine ok_sld hS0 (dd TL_law_17 6 rfl) (fun v158 => ?_)
        refine ok_aload_n (dd TL_law_17 7 rfl) 0 rfl ?_
        refine ok_iload (dd TL_law_17 8 rfl) 4 rfl ?_
        refine ok_iconst (v := (2 : Int32)) (dd TL_law_17 9 rfl) (by decide) ?_
        refine ok_iadd (dd TL_law_17 10 rfl) ?_
        refine ok_sld hS0 (dd TL_law_17 11 rfl) (fun v159 => ?_)
        refine ok_aload_n (dd TL_law_17 12 rfl) 0 rfl ?_
        refine ok_iload (dd TL_law_17 13 rfl) 4 rfl ?_
        refine ok_iconst (v := (3 : Int32)) (dd TL_law_17 14 rfl) (by decide) ?_
        refine ok_iadd (dd TL_law_17 15 rfl) ?_
        refine ok_sld hS0 (dd TL_law_17 16 rfl) (fun v160 => ?_)
        refine ok_callVI (cn := 12) [.int v158, .int v159, .int v160] [.int v157] (fun b161 => C_X12_notice Γ b161 v158 v159 v160) rfl cy_X12_notice ml_RL_123 im_X12_notice se_X12_notice (by decide) (Nat.le_of_ble_eq_true rfl) rfl (dd TL_law_17 17 rfl) (fun v162 => ?_)
        refine ok_icmp_eq (tgt := 1464) (dd TL_law_17 18 rfl) (by decide) ?_ ?_
        · exact O_L_law_L1464 Γ hG b L xs hS0 (F_L_law_L23 b L xs n) ih x1 x2 x3 x4
        · refine ok_iconst (v := (0 : Int32)) (dd TL_law_17 19 rfl) (by decide) ?_
          exact ok_zreturn (dd TL_law_17 20 rfl) rfl
      · show Ok _ _ _ _ 1126 _ _ (bn (sLd L xs (x4 + (1 : Int32))) fun v163 => bn (pRc 11 x1) fun b164 => bn (F_X11_pass b164 v163) fun v165 => bn (sLd L xs (x4 + (1 : Int32))) fun v166 => bn (pRc 12 x2) fun b167 => bn (F_X12_pass b167 v166) fun v168 => if v165 = v168 then F_L_law_L1464 b L xs (F_L_law_L23 b L xs n) x1 x2 x3 x4 else rz (0 : Int32))
        refine ok_aload_n (dd TL_law_17 21 rfl) 1 rfl ?_
        refine ok_aload_n (dd TL_law_17 22 rfl) 0 rfl ?_
        refine ok_iload (dd TL_law_17 23 rfl) 4 rfl ?_
        refine ok_iconst (v := (1 : Int32)) (dd TL_law_17 24 rfl) (by decide) ?_
        refine ok_iadd (dd TL_law_17 25 rfl) ?_
        refine ok_sld hS0 (dd TL_law_17 26 rfl) (fun v163 => ?_)
        refine ok_callVI (cn := 11) [.int v163] [] (fun b164 => C_X11_pass Γ b164 v163) rfl cy_X11_pass ml_RL_124 im_X11_pass se_X11_pass (by decide) (Nat.le_of_ble_eq_true rfl) rfl (dd TL_law_17 27 rfl) (fun v165 => ?_)
        refine ok_aload_n (dd TL_law_17 28 rfl) 2 rfl ?_
        refine ok_aload_n (dd TL_law_17 29 rfl) 0 rfl ?_
        refine ok_iload (dd TL_law_17 30 rfl) 4 rfl ?_
        refine ok_iconst (v := (1 : Int32)) (dd TL_law_17 31 rfl) (by decide) ?_
        refine ok_iadd (dd TL_law_17 32 rfl) ?_
        refine ok_sld hS0 (dd TL_law_17 33 rfl) (fun v166 => ?_)
        refine ok_callVI (cn := 12) [.int v166] [.int v165] (fun b167 => C_X12_pass Γ b167 v166) rfl cy_X12_pass ml_RL_127 im_X12_pass se_X12_pass (by decide) (Nat.le_of_ble_eq_true rfl) rfl (dd TL_law_17 34 rfl) (fun v168 => ?_)
        refine ok_icmp_eq (tgt := 1464) (dd TL_law_17 35 rfl) (by decide) ?_ ?_
        · exact O_L_law_L1464 Γ hG b L xs hS0 (F_L_law_L23 b L xs n) ih x1 x2 x3 x4
        · refine ok_iconst (v := (0 : Int32)) (dd TL_law_17 36 rfl) (by decide) ?_
          exact ok_zreturn (dd TL_law_17 37 rfl) rfl
      · show Ok _ _ _ _ 1151 _ _ (bn (sLd L xs (x4 + (1 : Int32))) fun v169 => bn (pRc 11 x1) fun b170 => bn (F_X11_keep b170 v169) fun v171 => bn (sLd L xs (x4 + (1 : Int32))) fun v172 => bn (pRc 12 x2) fun b173 => bn (F_X12_keep b173 v172) fun v174 => if v171 = v174 then F_L_law_L1464 b L xs (F_L_law_L23 b L xs n) x1 x2 x3 x4 else rz (0 : Int32))
        refine ok_aload_n (dd TL_law_17 38 rfl) 1 rfl ?_
        refine ok_aload_n (dd TL_law_17 39 rfl) 0 rfl ?_
        refine ok_iload (dd TL_law_18 0 rfl) 4 rfl ?_
        refine ok_iconst (v := (1 : Int32)) (dd TL_law_18 1 rfl) (by decide) ?_
        refine ok_iadd (dd TL_law_18 2 rfl) ?_
        refine ok_sld hS0 (dd TL_law_18 3 rfl) (fun v169 => ?_)
        refine ok_callVI (cn := 11) [.int v169] [] (fun b170 => C_X11_keep Γ b170 v169) rfl cy_X11_keep ml_RL_128 im_X11_keep se_X11_keep (by decide) (Nat.le_of_ble_eq_true rfl) rfl (dd TL_law_18 4 rfl) (fun v171 => ?_)
        refine ok_aload_n (dd TL_law_18 5 rfl) 2 rfl ?_
        refine ok_aload_n (dd TL_law_18 6 rfl) 0 rfl ?_
        refine ok_iload (dd TL_law_18 7 rfl) 4 rfl ?_
        refine ok_iconst (v := (1 : Int32)) (dd TL_law_18 8 rfl) (by decide) ?_
        refine ok_iadd (dd TL_law_18 9 rfl) ?_
        refine ok_sld hS0 (dd TL_law_18 10 rfl) (fun v172 => ?_)
        refine ok_callVI (cn := 12) [.int v172] [.int v171] (fun b173 => C_X12_keep Γ b173 v172) rfl cy_X12_keep ml_RL_131 im_X12_keep se_X12_keep (by decide) (Nat.le_of_ble_eq_true rfl) rfl (dd TL_law_18 11 rfl) (fun v174 => ?_)
        refine ok_icmp_eq (tgt := 1464) (dd TL_law_18 12 rfl) (by decide) ?_ ?_
        · exact O_L_law_L1464 Γ hG b L xs hS0 (F_L_law_L23 b L xs n) ih x1 x2 x3 x4
        · refine ok_iconst (v := (0 : Int32)) (dd TL_law_18 13 rfl) (by decide) ?_
          exact ok_zreturn (dd TL_law_18 14 rfl) rfl
      · show Ok _ _ _ _ 1176 _ _ (bn (sLd L xs (x4 + (1 : Int32))) fun v175 => bn (sLd L xs (x4 + (2 : Int32))) fun v176 => bn (pRc 11 x1) fun b177 => bn (F_X11_told b177 v175 v176) fun v178 => bn (sLd L xs (x4 + (1 : Int32))) fun v179 => bn (sLd L xs (x4 + (2 : Int32))) fun v180 => bn (pRc 12 x2) fun b181 => bn (F_X12_told b181 v179 v180) fun v182 => if v178 = v182 then F_L_law_L1464 b L xs (F_L_law_L23 b L xs n) x1 x2 x3 x4 else rz (0 : Int32))
        refine ok_aload_n (dd TL_law_18 15 rfl) 1 rfl ?_
        refine ok_aload_n (dd TL_law_18 16 rfl) 0 rfl ?_
        refine ok_iload (dd TL_law_18 17 rfl) 4 rfl ?_
        refine ok_iconst (v := (1 : Int32)) (dd TL_law_18 18 rfl) (by decide) ?_
        refine ok_iadd (dd TL_law_18 19 rfl) ?_
        refine ok_sld hS0 (dd TL_law_18 20 rfl) (fun v175 => ?_)
        refine ok_aload_n (dd TL_law_18 21 rfl) 0 rfl ?_
        refine ok_iload (dd TL_law_18 22 rfl) 4 rfl ?_
        refine ok_iconst (v := (2 : Int32)) (dd TL_law_18 23 rfl) (by decide) ?_
        refine ok_iadd (dd TL_law_18 24 rfl) ?_
        refine ok_sld hS0 (dd TL_law_18 25 rfl) (fun v176 => ?_)
        refine ok_callVI (cn := 11) [.int v175, .int v176] [] (fun b177 => C_X11_told Γ b177 v175 v176) rfl cy_X11_told ml_RL_132 im_X11_told se_X11_told (by decide) (Nat.le_of_ble_eq_true rfl) rfl (dd TL_law_18 26 rfl) (fun v178 => ?_)
        refine ok_aload_n (dd TL_law_18 27 rfl) 2 rfl ?_
        refine ok_aload_n (dd TL_law_18 28 rfl) 0 rfl ?_
        refine ok_iload (dd TL_law_18 29 rfl) 4 rfl ?_
        refine ok_iconst (v := (1 : Int32)) (dd TL_law_18 30 rfl) (by decide) ?_
        refine ok_iadd (dd TL_law_18 31 rfl) ?_
        refine ok_sld hS0 (dd TL_law_18 32 rfl) (fun v179 => ?_)
        refine ok_aload_n (dd TL_law_18 33 rfl) 0 rfl ?_
        refine ok_iload (dd TL_law_18 34 rfl) 4 rfl ?_
        refine ok_iconst (v := (2 : Int32)) (dd TL_law_18 35 rfl) (by decide) ?_
        refine ok_iadd (dd TL_law_18 36 rfl) ?_
        refine ok_sld hS0 (dd TL_law_18 37 rfl) (fun v180 => ?_)
        refine ok_callVI (cn := 12) [.int v179, .int v180] [.int v178] (fun b181 => C_X12_told Γ b181 v179 v180) rfl cy_X12_told ml_RL_135 im_X12_told se_X12_told (by decide) (Nat.le_of_ble_eq_true rfl) rfl (dd TL_law_18 38 rfl) (fun v182 => ?_)
        refine ok_icmp_eq (tgt := 1464) (dd TL_law_18 39 rfl) (by decide) ?_ ?_
        · exact O_L_law_L1464 Γ hG b L xs hS0 (F_L_law_L23 b L xs n) ih x1 x2 x3 x4
        · refine ok_iconst (v := (0 : Int32)) (dd TL_law_19 0 rfl) (by decide) ?_
          exact ok_zreturn (dd TL_law_19 1 rfl) rfl
      · show Ok _ _ _ _ 1213 _ _ (bn (sLd L xs (x4 + (1 : Int32))) fun v183 => bn (sLd L xs (x4 + (2 : Int32))) fun v184 => bn (pRc 11 x1) fun b185 => bn (F_X11_stored b185 v183 v184) fun v186 => bn (sLd L xs (x4 + (1 : Int32))) fun v187 => bn (sLd L xs (x4 + (2 : Int32))) fun v188 => bn (pRc 12 x2) fun b189 => bn (F_X12_stored b189 v187 v188) fun v190 => if v186 = v190 then F_L_law_L1464 b L xs (F_L_law_L23 b L xs n) x1 x2 x3 x4 else rz (0 : Int32))
        refine ok_aload_n (dd TL_law_19 2 rfl) 1 rfl ?_
        refine ok_aload_n (dd TL_law_19 3 rfl) 0 rfl ?_
        refine ok_iload (dd TL_law_19 4 rfl) 4 rfl ?_
        refine ok_iconst (v := (1 : Int32)) (dd TL_law_19 5 rfl) (by decide) ?_
        refine ok_iadd (dd TL_law_19 6 rfl) ?_
        refine ok_sld hS0 (dd TL_law_19 7 rfl) (fun v183 => ?_)
        refine ok_aload_n (dd TL_law_19 8 rfl) 0 rfl ?_
        refine ok_iload (dd TL_law_19 9 rfl) 4 rfl ?_
        refine ok_iconst (v := (2 : Int32)) (dd TL_law_19 10 rfl) (by decide) ?_
        refine ok_iadd (dd TL_law_19 11 rfl) ?_
        refine ok_sld hS0 (dd TL_law_19 12 rfl) (fun v184 => ?_)
        refine ok_callVI (cn := 11) [.int v183, .int v184] [] (fun b185 => C_X11_stored Γ b185 v183 v184) rfl cy_X11_stored ml_RL_136 im_X11_stored se_X11_stored (by decide) (Nat.le_of_ble_eq_true rfl) rfl (dd TL_law_19 13 rfl) (fun v186 => ?_)
        refine ok_aload_n (dd TL_law_19 14 rfl) 2 rfl ?_
        refine ok_aload_n (dd TL_law_19 15 rfl) 0 rfl ?_
        refine ok_iload (dd TL_law_19 16 rfl) 4 rfl ?_
        refine ok_iconst (v := (1 : Int32)) (dd TL_law_19 17 rfl) (by decide) ?_
        refine ok_iadd (dd TL_law_19 18 rfl) ?_
        refine ok_sld hS0 (dd TL_law_19 19 rfl) (fun v187 => ?_)
        refine ok_aload_n (dd TL_law_19 20 rfl) 0 rfl ?_
        refine ok_iload (dd TL_law_19 21 rfl) 4 rfl ?_
        refine ok_iconst (v := (2 : Int32)) (dd TL_law_19 22 rfl) (by decide) ?_
        refine ok_iadd (dd TL_law_19 23 rfl) ?_
        refine ok_sld hS0 (dd TL_law_19 24 rfl) (fun v188 => ?_)
        refine ok_callVI (cn := 12) [.int v187, .int v188] [.int v186] (fun b189 => C_X12_stored Γ b189 v187 v188) rfl cy_X12_stored ml_RL_139 im_X12_stored se_X12_stored (by decide) (Nat.le_of_ble_eq_true rfl) rfl (dd TL_law_19 25 rfl) (fun v190 => ?_)
        refine ok_icmp_eq (tgt := 1464) (dd TL_law_19 26 rfl) (by decide) ?_ ?_
        · exact O_L_law_L1464 Γ hG b L xs hS0 (F_L_law_L23 b L xs n) ih x1 x2 x3 x4
        · refine ok_iconst (v := (0 : Int32)) (dd TL_law_19 27 rfl) (by decide) ?_
          exact ok_zreturn (dd TL_law_19 28 rfl) rfl
      · show Ok _ _ _ _ 1250 _ _ (bn (sLd L xs (x4 + (1 : Int32))) fun v191 => bn (sLd L xs (x4 + (2 : Int32))) fun v192 => bn (pRc 11 x1) fun b193 => bn (F_X11_squeeze b193 v191 v192) fun v194 => bn (sLd L xs (x4 + (1 : Int32))) fun v195 => bn (sLd L xs (x4 + (2 : Int32))) fun v196 => bn (pRc 12 x2) fun b197 => bn (F_X12_squeeze b197 v195 v196) fun v198 => if v194 = v198 then F_L_law_L1464 b L xs (F_L_law_L23 b L xs n) x1 x2 x3 x4 else rz (0 : Int32))
        refine ok_aload_n (dd TL_law_19 29 rfl) 1 rfl ?_
        refine ok_aload_n (dd TL_law_19 30 rfl) 0 rfl ?_
        refine ok_iload (dd TL_law_19 31 rfl) 4 rfl ?_
        refine ok_iconst (v := (1 : Int32)) (dd TL_law_19 32 rfl) (by decide) ?_
        refine ok_iadd (dd TL_law_19 33 rfl) ?_
        refine ok_sld hS0 (dd TL_law_19 34 rfl) (fun v191 => ?_)
        refine ok_aload_n (dd TL_law_19 35 rfl) 0 rfl ?_
        refine ok_iload (dd TL_law_19 36 rfl) 4 rfl ?_
        refine ok_iconst (v := (2 : Int32)) (dd TL_law_19 37 rfl) (by decide) ?_
        refine ok_iadd (dd TL_law_19 38 rfl) ?_
        refine ok_sld hS0 (dd TL_law_19 39 rfl) (fun v192 => ?_)
        refine ok_callVI (cn := 11) [.int v191, .int v192] [] (fun b193 => C_X11_squeeze Γ b193 v191 v192) rfl cy_X11_squeeze ml_RL_140 im_X11_squeeze se_X11_squeeze (by decide) (Nat.le_of_ble_eq_true rfl) rfl (dd TL_law_20 0 rfl) (fun v194 => ?_)
        refine ok_aload_n (dd TL_law_20 1 rfl) 2 rfl ?_
        refine ok_aload_n (dd TL_law_20 2 rfl) 0 rfl ?_
        refine ok_iload (dd TL_law_20 3 rfl) 4 rfl ?_
        refine ok_iconst (v := (1 : Int32)) (dd TL_law_20 4 rfl) (by decide) ?_
        refine ok_iadd (dd TL_law_20 5 rfl) ?_
        refine ok_sld hS0 (dd TL_law_20 6 rfl) (fun v195 => ?_)
        refine ok_aload_n (dd TL_law_20 7 rfl) 0 rfl ?_
        refine ok_iload (dd TL_law_20 8 rfl) 4 rfl ?_
        refine ok_iconst (v := (2 : Int32)) (dd TL_law_20 9 rfl) (by decide) ?_
        refine ok_iadd (dd TL_law_20 10 rfl) ?_
        refine ok_sld hS0 (dd TL_law_20 11 rfl) (fun v196 => ?_)
        refine ok_callVI (cn := 12) [.int v195, .int v196] [.int v194] (fun b197 => C_X12_squeeze Γ b197 v195 v196) rfl cy_X12_squeeze ml_RL_143 im_X12_squeeze se_X12_squeeze (by decide) (Nat.le_of_ble_eq_true rfl) rfl (dd TL_law_20 12 rfl) (fun v198 => ?_)
        refine ok_icmp_eq (tgt := 1464) (dd TL_law_20 13 rfl) (by decide) ?_ ?_
        · exact O_L_law_L1464 Γ hG b L xs hS0 (F_L_law_L23 b L xs n) ih x1 x2 x3 x4
        · refine ok_iconst (v := (0 : Int32)) (dd TL_law_20 14 rfl) (by decide) ?_
          exact ok_zreturn (dd TL_law_20 15 rfl) rfl
      · show Ok _ _ _ _ 1287 _ _ (bn (sLd L xs (x4 + (1 : Int32))) fun v199 => bn (sLd L xs (x4 + (2 : Int32))) fun v200 => bn (sLd L xs (x4 + (3 : Int32))) fun v201 => bn (pRc 11 x1) fun b202 => bn (F_X11_right b202 v199 v200 v201) fun v203 => bn (sLd L xs (x4 + (1 : Int32))) fun v204 => bn (sLd L xs (x4 + (2 : Int32))) fun v205 => bn (sLd L xs (x4 + (3 : Int32))) fun v206 => bn (pRc 12 x2) fun b207 => bn (F_X12_right b207 v204 v205 v206) fun v208 => if v203 = v208 then F_L_law_L1464 b L xs (F_L_law_L23 b L xs n) x1 x2 x3 x4 else rz (0 : Int32))
        refine ok_aload_n (dd TL_law_20 16 rfl) 1 rfl ?_
        refine ok_aload_n (dd TL_law_20 17 rfl) 0 rfl ?_
        refine ok_iload (dd TL_law_20 18 rfl) 4 rfl ?_
        refine ok_iconst (v := (1 : Int32)) (dd TL_law_20 19 rfl) (by decide) ?_
        refine ok_iadd (dd TL_law_20 20 rfl) ?_
        refine ok_sld hS0 (dd TL_law_20 21 rfl) (fun v199 => ?_)
        refine ok_aload_n (dd TL_law_20 22 rfl) 0 rfl ?_
        refine ok_iload (dd TL_law_20 23 rfl) 4 rfl ?_
        refine ok_iconst (v := (2 : Int32)) (dd TL_law_20 24 rfl) (by decide) ?_
        refine ok_iadd (dd TL_law_20 25 rfl) ?_
        refine ok_sld hS0 (dd TL_law_20 26 rfl) (fun v200 => ?_)
        refine ok_aload_n (dd TL_law_20 27 rfl) 0 rfl ?_
        refine ok_iload (dd TL_law_20 28 rfl) 4 rfl ?_
        refine ok_iconst (v := (3 : Int32)) (dd TL_law_20 29 rfl) (by decide) ?_
        refine ok_iadd (dd TL_law_20 30 rfl) ?_
        refine ok_sld hS0 (dd TL_law_20 31 rfl) (fun v201 => ?_)
        refine ok_callVI (cn := 11) [.int v199, .int v200, .int v201] [] (fun b202 => C_X11_right Γ b202 v199 v200 v201) rfl cy_X11_right ml_RL_144 im_X11_right se_X11_right (by decide) (Nat.le_of_ble_eq_true rfl) rfl (dd TL_law_20 32 rfl) (fun v203 => ?_)
        refine ok_aload_n (dd TL_law_20 33 rfl) 2 rfl ?_
        refine ok_aload_n (dd TL_law_20 34 rfl) 0 rfl ?_
        refine ok_iload (dd TL_law_20 35 rfl) 4 rfl ?_
        refine ok_iconst (v := (1 : Int32)) (dd TL_law_20 36 rfl) (by decide) ?_
        refine ok_iadd (dd TL_law_20 37 rfl) ?_
        refine ok_sld hS0 (dd TL_law_20 38 rfl) (fun v204 => ?_)
        refine ok_aload_n (dd TL_law_20 39 rfl) 0 rfl ?_
        refine ok_iload (dd TL_law_21 0 rfl) 4 rfl ?_
        refine ok_iconst (v := (2 : Int32)) (dd TL_law_21 1 rfl) (by decide) ?_
        refine ok_iadd (dd TL_law_21 2 rfl) ?_
        refine ok_sld hS0 (dd TL_law_21 3 rfl) (fun v205 => ?_)
        refine ok_aload_n (dd TL_law_21 4 rfl) 0 rfl ?_
        refine ok_iload (dd TL_law_21 5 rfl) 4 rfl ?_
        refine ok_iconst (v := (3 : Int32)) (dd TL_law_21 6 rfl) (by decide) ?_
        refine ok_iadd (dd TL_law_21 7 rfl) ?_
        refine ok_sld hS0 (dd TL_law_21 8 rfl) (fun v206 => ?_)
        refine ok_callVI (cn := 12) [.int v204, .int v205, .int v206] [.int v203] (fun b207 => C_X12_right Γ b207 v204 v205 v206) rfl cy_X12_right ml_RL_148 im_X12_right se_X12_right (by decide) (Nat.le_of_ble_eq_true rfl) rfl (dd TL_law_21 9 rfl) (fun v208 => ?_)
        refine ok_icmp_eq (tgt := 1464) (dd TL_law_21 10 rfl) (by decide) ?_ ?_
        · exact O_L_law_L1464 Γ hG b L xs hS0 (F_L_law_L23 b L xs n) ih x1 x2 x3 x4
        · refine ok_iconst (v := (0 : Int32)) (dd TL_law_21 11 rfl) (by decide) ?_
          exact ok_zreturn (dd TL_law_21 12 rfl) rfl
      · show Ok _ _ _ _ 1336 _ _ (bn (sLd L xs (x4 + (1 : Int32))) fun v209 => bn (sLd L xs (x4 + (2 : Int32))) fun v210 => bn (sLd L xs (x4 + (3 : Int32))) fun v211 => bn (pRc 11 x1) fun b212 => bn (F_X11_settle b212 v209 v210 v211) fun v213 => bn (sLd L xs (x4 + (1 : Int32))) fun v214 => bn (sLd L xs (x4 + (2 : Int32))) fun v215 => bn (sLd L xs (x4 + (3 : Int32))) fun v216 => bn (pRc 12 x2) fun b217 => bn (F_X12_settle b217 v214 v215 v216) fun v218 => if v213 = v218 then F_L_law_L1464 b L xs (F_L_law_L23 b L xs n) x1 x2 x3 x4 else rz (0 : Int32))
        refine ok_aload_n (dd TL_law_21 13 rfl) 1 rfl ?_
        refine ok_aload_n (dd TL_law_21 14 rfl) 0 rfl ?_
        refine ok_iload (dd TL_law_21 15 rfl) 4 rfl ?_
        refine ok_iconst (v := (1 : Int32)) (dd TL_law_21 16 rfl) (by decide) ?_
        refine ok_iadd (dd TL_law_21 17 rfl) ?_
        refine ok_sld hS0 (dd TL_law_21 18 rfl) (fun v209 => ?_)
        refine ok_aload_n (dd TL_law_21 19 rfl) 0 rfl ?_
        refine ok_iload (dd TL_law_21 20 rfl) 4 rfl ?_
        refine ok_iconst (v := (2 : Int32)) (dd TL_law_21 21 rfl) (by decide) ?_
        refine ok_iadd (dd TL_law_21 22 rfl) ?_
        refine ok_sld hS0 (dd TL_law_21 23 rfl) (fun v210 => ?_)
        refine ok_aload_n (dd TL_law_21 24 rfl) 0 rfl ?_
        refine ok_iload (dd TL_law_21 25 rfl) 4 rfl ?_
        refine ok_iconst (v := (3 : Int32)) (dd TL_law_21 26 rfl) (by decide) ?_
        refine ok_iadd (dd TL_law_21 27 rfl) ?_
        refine ok_sld hS0 (dd TL_law_21 28 rfl) (fun v211 => ?_)
        refine ok_callVI (cn := 11) [.int v209, .int v210, .int v211] [] (fun b212 => C_X11_settle Γ b212 v209 v210 v211) rfl cy_X11_settle ml_RL_149 im_X11_settle se_X11_settle (by decide) (Nat.le_of_ble_eq_true rfl) rfl (dd TL_law_21 29 rfl) (fun v213 => ?_)
        refine ok_aload_n (dd TL_law_21 30 rfl) 2 rfl ?_
        refine ok_aload_n (dd TL_law_21 31 rfl) 0 rfl ?_
        refine ok_iload (dd TL_law_21 32 rfl) 4 rfl ?_
        refine ok_iconst (v := (1 : Int32)) (dd TL_law_21 33 rfl) (by decide) ?_
        refine ok_iadd (dd TL_law_21 34 rfl) ?_
        refine ok_sld hS0 (dd TL_law_21 35 rfl) (fun v214 => ?_)
        refine ok_aload_n (dd TL_law_21 36 rfl) 0 rfl ?_
        refine ok_iload (dd TL_law_21 37 rfl) 4 rfl ?_
        refine ok_iconst (v := (2 : Int32)) (dd TL_law_21 38 rfl) (by decide) ?_
        refine ok_iadd (dd TL_law_21 39 rfl) ?_
        refine ok_sld hS0 (dd TL_law_22 0 rfl) (fun v215 => ?_)
        refine ok_aload_n (dd TL_law_22 1 rfl) 0 rfl ?_
        refine ok_iload (dd TL_law_22 2 rfl) 4 rfl ?_
        refine ok_iconst (v := (3 : Int32)) (dd TL_law_22 3 rfl) (by decide) ?_
        refine ok_iadd (dd TL_law_22 4 rfl) ?_
        refine ok_sld hS0 (dd TL_law_22 5 rfl) (fun v216 => ?_)
        refine ok_callVI (cn := 12) [.int v214, .int v215, .int v216] [.int v213] (fun b217 => C_X12_settle Γ b217 v214 v215 v216) rfl cy_X12_settle ml_RL_152 im_X12_settle se_X12_settle (by decide) (Nat.le_of_ble_eq_true rfl) rfl (dd TL_law_22 6 rfl) (fun v218 => ?_)
        refine ok_icmp_eq (tgt := 1464) (dd TL_law_22 7 rfl) (by decide) ?_ ?_
        · exact O_L_law_L1464 Γ hG b L xs hS0 (F_L_law_L23 b L xs n) ih x1 x2 x3 x4
        · refine ok_iconst (v := (0 : Int32)) (dd TL_law_22 8 rfl) (by decide) ?_
          exact ok_zreturn (dd TL_law_22 9 rfl) rfl
      · show Ok _ _ _ _ 1385 _ _ (bn (sLd L xs (x4 + (1 : Int32))) fun v219 => bn (sLd L xs (x4 + (2 : Int32))) fun v220 => bn (sLd L xs (x4 + (3 : Int32))) fun v221 => bn (F_L_equity x1 v219 v220 v221 x3) fun v222 => bn (sLd L xs (x4 + (1 : Int32))) fun v223 => bn (sLd L xs (x4 + (2 : Int32))) fun v224 => bn (sLd L xs (x4 + (3 : Int32))) fun v225 => bn (pRc 12 x2) fun b226 => bn (F_X12_equity b226 v223 v224 v225) fun v227 => bn (pRc 12 x2) fun b228 => bn (F_X12_thrown b228) fun v229 => if v229 = v222 then if ¬ v222 = 0 then F_L_law_L1461 b L xs (F_L_law_L23 b L xs n) x1 x2 x3 x4 else bn (lL 377 x3 (0 : Int32)) fun v230 => if (lg_cmp v230 v227) = 0 then F_L_law_L1461 b L xs (F_L_law_L23 b L xs n) x1 x2 x3 x4 else rz (0 : Int32) else rz (0 : Int32))
        refine ok_aload_n (dd TL_law_22 10 rfl) 1 rfl ?_
        refine ok_aload_n (dd TL_law_22 11 rfl) 0 rfl ?_
        refine ok_iload (dd TL_law_22 12 rfl) 4 rfl ?_
        refine ok_iconst (v := (1 : Int32)) (dd TL_law_22 13 rfl) (by decide) ?_
        refine ok_iadd (dd TL_law_22 14 rfl) ?_
        refine ok_sld hS0 (dd TL_law_22 15 rfl) (fun v219 => ?_)
        refine ok_aload_n (dd TL_law_22 16 rfl) 0 rfl ?_
        refine ok_iload (dd TL_law_22 17 rfl) 4 rfl ?_
        refine ok_iconst (v := (2 : Int32)) (dd TL_law_22 18 rfl) (by decide) ?_
        refine ok_iadd (dd TL_law_22 19 rfl) ?_
        refine ok_sld hS0 (dd TL_law_22 20 rfl) (fun v220 => ?_)
        refine ok_aload_n (dd TL_law_22 21 rfl) 0 rfl ?_
        refine ok_iload (dd TL_law_22 22 rfl) 4 rfl ?_
        refine ok_iconst (v := (3 : Int32)) (dd TL_law_22 23 rfl) (by decide) ?_
        refine ok_iadd (dd TL_law_22 24 rfl) ?_
        refine ok_sld hS0 (dd TL_law_22 25 rfl) (fun v221 => ?_)
        refine ok_aload_n (dd TL_law_22 26 rfl) 3 rfl ?_
        refine ok_callSH [va_rf x1, .int v219, .int v220, .int v221, va_rf x3] [] (C_L_equity Γ hG x1 v219 v220 v221 x3) ch_L_equity ml_RL_153 sm_L_equity (by decide) (Nat.le_of_ble_eq_true rfl) rfl (dd TL_law_22 27 rfl) (fun v222 => ?_)
        refine ok_istore (lv' := [(5, .int v222), (0, va_rf (some b)), (1, va_rf x1), (2, va_rf x2), (3, va_rf x3), (4, .int x4)]) (dd TL_law_22 28 rfl) (by decide) (by first | rfl | (simp only [List.filter, cat_rf]; rfl)) ?_
        refine ok_aload_n (dd TL_law_22 29 rfl) 3 rfl ?_
        refine ok_aload_n (dd TL_law_22 30 rfl) 1 rfl ?_
        refine ok_iload (dd TL_law_22 31 rfl) 5 rfl ?_
        refine ok_iconst (v := (1 : Int32)) (dd TL_law_22 32 rfl) (by decide) ?_
        refine ok_iadd (dd TL_law_22 33 rfl) ?_
        refine ok_sld hS0 (dd TL_law_22 34 rfl) (fun v223 => ?_)
        refine ok_aload_n (dd TL_law_22 35 rfl) 1 rfl ?_
        refine ok_iload (dd TL_law_22 36 rfl) 5 rfl ?_
        refine ok_iconst (v := (2 : Int32)) (dd TL_law_22 37 rfl) (by decide) ?_
        refine ok_iadd (dd TL_law_22 38 rfl) ?_
        refine ok_sld hS0 (dd TL_law_22 39 rfl) (fun v224 => ?_)
        refine ok_aload_n (dd TL_law_23 0 rfl) 1 rfl ?_
        refine ok_iload (dd TL_law_23 1 rfl) 5 rfl ?_
        refine ok_iconst (v := (3 : Int32)) (dd TL_law_23 2 rfl) (by decide) ?_
        refine ok_iadd (dd TL_law_23 3 rfl) ?_
        refine ok_sld hS0 (dd TL_law_23 4 rfl) (fun v225 => ?_)
        refine ok_callVL (cn := 12) [.int v223, .int v224, .int v225] [] (fun b226 => C_X12_equity Γ b226 v223 v224 v225) rfl cy_X12_equity ml_RL_156 im_X12_equity se_X12_equity (by decide) (Nat.le_of_ble_eq_true rfl) rfl (dd TL_law_23 5 rfl) (fun v227 => ?_)
        refine ok_lstore (lv' := [(6, .long v227), (5, .int v222), (0, va_rf (some b)), (1, va_rf x1), (2, va_rf x2), (3, va_rf x3), (4, .int x4)]) (dd TL_law_23 6 rfl) (by decide) (by first | rfl | (simp only [List.filter, cat_rf]; rfl)) ?_
        refine ok_aload_n (dd TL_law_23 7 rfl) 4 rfl ?_
        refine ok_callVI (cn := 12) [] [] (fun b228 => C_X12_thrown Γ b228) rfl cy_X12_thrown ml_RL_60 im_X12_thrown se_X12_thrown (by decide) (Nat.le_of_ble_eq_true rfl) rfl (dd TL_law_23 8 rfl) (fun v229 => ?_)
        refine ok_iload (dd TL_law_23 9 rfl) 1 rfl ?_
        refine ok_icmp_eq (tgt := 1445) (dd TL_law_23 10 rfl) (by decide) ?_ ?_
        · refine ok_iload (dd TL_law_23 13 rfl) 1 rfl ?_
          refine ok_if_ne (tgt := 1461) (dd TL_law_23 14 rfl) (by decide) ?_ ?_
          · refine ok_sub [2, 3, 4, 5, 6] rfl ?_
            exact O_L_law_L1461 Γ hG b L xs hS0 (F_L_law_L23 b L xs n) ih x1 x2 x3 x4
          · refine ok_aload_n (dd TL_law_23 15 rfl) 5 rfl ?_
            refine ok_iconst (v := (0 : Int32)) (dd TL_law_23 16 rfl) (by decide) ?_
            refine ok_lL (kd := 377) (by decide) rfl (dd TL_law_23 17 rfl) (fun v230 => ?_)
            refine ok_lload (dd TL_law_23 18 rfl) 0 rfl ?_
            refine ok_lcmp (dd TL_law_23 19 rfl) ?_
            refine ok_if_eq (tgt := 1461) (dd TL_law_23 20 rfl) (by decide) ?_ ?_
            · refine ok_sub [2, 3, 4, 5, 6] rfl ?_
              exact O_L_law_L1461 Γ hG b L xs hS0 (F_L_law_L23 b L xs n) ih x1 x2 x3 x4
            · refine ok_iconst (v := (0 : Int32)) (dd TL_law_23 21 rfl) (by decide) ?_
              exact ok_zreturn (dd TL_law_23 22 rfl) rfl
        · refine ok_iconst (v := (0 : Int32)) (dd TL_law_23 11 rfl) (by decide) ?_
          exact ok_zreturn (dd TL_law_23 12 rfl) rfl
      · show Ok _ _ _ _ 1464 _ _ (F_L_law_L1464 b L xs (F_L_law_L23 b L xs n) x1 x2 x3 x4)
        exact O_L_law_L1464 Γ hG b L xs hS0 (F_L_law_L23 b L xs n) ih x1 x2 x3 x4
def F_L_law (b L : Nat) (xs : Nat → Int32)  : M Int32 := bn (newO 11 11) fun r1 => bn (pRc 11 r1) fun b2 => bn (F_X11_init b2) fun _ => bn (newO 12 48) fun r3 => bn (pRc 12 r3) fun b4 => bn (F_X12_init b4) fun _ => bn (newA 377 (1 : Int32)) fun r5 => F_L_law_L23 b L xs FU r1 r3 r5 (0 : Int32)
set_option maxRecDepth 100000 in
theorem O_L_law (Γ : Gam) (hG : GX Γ) (b L : Nat) (xs : Nat → Int32) (hS0 : GS Γ b L xs) : Ok Γ mL_law 110 (qo Γ vI) 0 [(0, va_rf (some b))] [] (F_L_law b L xs) := by
  unfold F_L_law
  refine ok_newO cf_11 tyX11 tyX11_ok df_11 cl_RL_8 ib_11 in_11 (dd TL_law_0 0 rfl) (fun r1 => ?_)
  refine ok_dup (dd TL_law_0 1 rfl) (by first | rfl | exact cat_rf _) ?_
  refine ok_callI (cn := 11) [] [va_rf r1] (fun b2 => C_X11_init Γ b2) cy_X11_init rfl rfl ml_RL_30 im_X11_init (by decide) (Nat.le_of_ble_eq_true rfl) rfl (dd TL_law_0 2 rfl) ?_
  refine ok_astore_n (lv' := [(1, va_rf r1), (0, va_rf (some b))]) (dd TL_law_0 3 rfl) (by decide) (by first | rfl | (simp only [List.filter, cat_rf]; rfl)) ?_
  refine ok_newO cf_12 tyX12 tyX12_ok df_12 cl_RL_31 ib_12 in_12 (dd TL_law_0 4 rfl) (fun r3 => ?_)
  refine ok_dup (dd TL_law_0 5 rfl) (by first | rfl | exact cat_rf _) ?_
  refine ok_callI (cn := 12) [] [va_rf r3] (fun b4 => C_X12_init Γ b4) cy_X12_init rfl rfl ml_RL_33 im_X12_init (by decide) (Nat.le_of_ble_eq_true rfl) rfl (dd TL_law_0 6 rfl) ?_
  refine ok_astore_n (lv' := [(2, va_rf r3), (1, va_rf r1), (0, va_rf (some b))]) (dd TL_law_0 7 rfl) (by decide) (by first | rfl | (simp only [List.filter, cat_rf]; rfl)) ?_
  refine ok_iconst (v := (1 : Int32)) (dd TL_law_0 8 rfl) (by decide) ?_
  refine ok_newAL (kd := 377) (by decide) rfl ac_long (dd TL_law_0 9 rfl) (fun r5 => ?_)
  refine ok_astore_n (lv' := [(3, va_rf r5), (2, va_rf r3), (1, va_rf r1), (0, va_rf (some b))]) (dd TL_law_0 10 rfl) (by decide) (by first | rfl | (simp only [List.filter, cat_rf]; rfl)) ?_
  refine ok_iconst (v := (0 : Int32)) (dd TL_law_0 11 rfl) (by decide) ?_
  refine ok_istore (lv' := [(4, .int (0 : Int32)), (3, va_rf r5), (2, va_rf r3), (1, va_rf r1), (0, va_rf (some b))]) (dd TL_law_0 12 rfl) (by decide) (by first | rfl | (simp only [List.filter, cat_rf]; rfl)) ?_
  refine ok_sub [4, 3, 2, 1, 0] rfl ?_
  exact O_L_law_L23 Γ hG b L xs hS0 FU r1 r3 r5 (0 : Int32)
