abbrev mX2_isBetter : Mth := (yX2_isBetter, cX2_isBetter, 3, (some .boolean : Option FieldType))
abbrev mX9_init : Mth := (yX9_init, cX9_init, 5, (none : Option FieldType))
theorem w_oi : Cond.instanceMethod Lib.objectInit ∈ lw_g := gin 124 (by decide +kernel) rfl
theorem w_oc : Cond.code Lib.objectInit ⟨#[0xb1]⟩ 1 none ∈ lw_g := gin 125 (by decide +kernel) rfl
theorem ml_RX9_1 : Cond.methodLink RX9 1 Lib.objectInit ∈ lw_g := gin 760 (by decide +kernel) rfl
theorem cf_9 : CF 9 RX9 TX9 4 := ⟨rfl, cf_in [772, 774, 776, 778] (by decide +kernel) (by decide +kernel), ⟨tyX9, tyX9_ok⟩, nmX9⟩
theorem fl_RX9_7 : FL RX9 7 9 0 RX9 TX9 4 := ⟨cf_9, by decide, "GrainPit$Stake", gin 761 (by decide +kernel) rfl, Or.inl rfl⟩
theorem fl_RX9_13 : FL RX9 13 9 3 RX9 TX9 4 := ⟨cf_9, by decide, "GrainPit$Stake", gin 769 (by decide +kernel) rfl, Or.inl rfl⟩
theorem fl_RX9_16 : FL RX9 16 9 1 RX9 TX9 4 := ⟨cf_9, by decide, "GrainPit$Stake", gin 764 (by decide +kernel) rfl, Or.inl rfl⟩
theorem fl_RX9_19 : FL RX9 19 9 2 RX9 TX9 4 := ⟨cf_9, by decide, "GrainPit$Stake", gin 767 (by decide +kernel) rfl, Or.inl rfl⟩
abbrev mX7_push : Mth := (yX7_push, cX7_push, 2, (none : Option FieldType))
theorem cf_7 : CF 7 RX7 TX7 4 := ⟨rfl, cf_in [208, 210, 212, 214] (by decide +kernel) (by decide +kernel), ⟨tyX7, tyX7_ok⟩, nmX7⟩
theorem fl_RX7_55 : FL RX7 55 7 3 RX7 TX7 4 := ⟨cf_7, by decide, "GrainPit$Rulebook", gin 207 (by decide +kernel) rfl, Or.inl rfl⟩
theorem fl_RX7_24 : FL RX7 24 7 2 RX7 TX7 4 := ⟨cf_7, by decide, "GrainPit$Rulebook", gin 206 (by decide +kernel) rfl, Or.inl rfl⟩
abbrev mX7_pop : Mth := (yX7_pop, cX7_pop, 1, (some .int : Option FieldType))
abbrev mX1_gain : Mth := (yX1_gain, cX1_gain, 4, (none : Option FieldType))
theorem cf_1 : CF 1 RX1 TX1 5 := ⟨rfl, cf_in [603, 605, 607, 609, 611] (by decide +kernel) (by decide +kernel), ⟨tyX1, tyX1_ok⟩, nmX1⟩
theorem fl_RX1_9 : FL RX1 9 1 0 RX1 TX1 5 := ⟨cf_1, by decide, "GrainPit$Member", gin 596 (by decide +kernel) rfl, Or.inl rfl⟩
theorem fl_RX1_15 : FL RX1 15 1 1 RX1 TX1 5 := ⟨cf_1, by decide, "GrainPit$Member", gin 598 (by decide +kernel) rfl, Or.inl rfl⟩
abbrev mX1_init : Mth := (yX1_init, cX1_init, 1, (none : Option FieldType))
theorem ml_RX1_3 : Cond.methodLink RX1 3 Lib.objectInit ∈ lw_g := gin 595 (by decide +kernel) rfl
theorem ac_int : Cond.arrayClass .int ∈ lw_g := gin 170 (by decide +kernel) rfl
abbrev mX0_init : Mth := (yX0_init, cX0_init, 2, (none : Option FieldType))
theorem ml_RX0_3 : Cond.methodLink RX0 3 Lib.objectInit ∈ lw_g := gin 843 (by decide +kernel) rfl
theorem cf_0 : CF 0 RX0 TX0 3 := ⟨rfl, cf_in [852, 854, 856] (by decide +kernel) (by decide +kernel), ⟨tyX0, tyX0_ok⟩, nmX0⟩
theorem fl_RX0_11 : FL RX0 11 0 0 RX0 TX0 3 := ⟨cf_0, by decide, "GrainPit$Day", gin 846 (by decide +kernel) rfl, Or.inl rfl⟩
theorem ao_GrainPit_Settle : Cond.arrayOver (.object "GrainPit$Settle") ∈ lw_nn := nin 845 (by decide +kernel) rfl
theorem cw_RX0_9 : Cond.classLink RX0 9 "GrainPit$Settle" ∈ lw_g := gin 844 (by decide +kernel) rfl
theorem fl_RX0_17 : FL RX0 17 0 1 RX0 TX0 3 := ⟨cf_0, by decide, "GrainPit$Day", gin 848 (by decide +kernel) rfl, Or.inl rfl⟩
theorem fl_RX0_21 : FL RX0 21 0 2 RX0 TX0 3 := ⟨cf_0, by decide, "GrainPit$Day", gin 850 (by decide +kernel) rfl, Or.inl rfl⟩
theorem ac_long : Cond.arrayClass .long ∈ lw_g := gin 859 (by decide +kernel) rfl
abbrev mX8_init : Mth := (yX8_init, cX8_init, 4, (none : Option FieldType))
theorem ml_RX8_1 : Cond.methodLink RX8 1 Lib.objectInit ∈ lw_g := gin 877 (by decide +kernel) rfl
theorem cf_8 : CF 8 RX8 TX8 3 := ⟨rfl, cf_in [884, 886, 888] (by decide +kernel) (by decide +kernel), ⟨tyX8, tyX8_ok⟩, nmX8⟩
theorem fl_RX8_7 : FL RX8 7 8 0 RX8 TX8 3 := ⟨cf_8, by decide, "GrainPit$Settle", gin 878 (by decide +kernel) rfl, Or.inl rfl⟩
theorem fl_RX8_13 : FL RX8 13 8 1 RX8 TX8 3 := ⟨cf_8, by decide, "GrainPit$Settle", gin 880 (by decide +kernel) rfl, Or.inl rfl⟩
theorem fl_RX8_16 : FL RX8 16 8 2 RX8 TX8 3 := ⟨cf_8, by decide, "GrainPit$Settle", gin 882 (by decide +kernel) rfl, Or.inl rfl⟩
abbrev mX3_init : Mth := (yX3_init, cX3_init, 5, (none : Option FieldType))
theorem ml_RX3_3 : Cond.methodLink RX3 3 Lib.objectInit ∈ lw_g := gin 976 (by decide +kernel) rfl
theorem cf_3 : CF 3 RX3 TX3 7 := ⟨rfl, cf_in [990, 992, 994, 996, 998, 1000, 1002] (by decide +kernel) (by decide +kernel), ⟨tyX3, tyX3_ok⟩, nmX3⟩
theorem fl_RX3_9 : FL RX3 9 3 5 RX3 TX3 7 := ⟨cf_3, by decide, "GrainPit$Notice", gin 987 (by decide +kernel) rfl, Or.inl rfl⟩
theorem fl_RX3_15 : FL RX3 15 3 0 RX3 TX3 7 := ⟨cf_3, by decide, "GrainPit$Notice", gin 977 (by decide +kernel) rfl, Or.inl rfl⟩
theorem fl_RX3_18 : FL RX3 18 3 1 RX3 TX3 7 := ⟨cf_3, by decide, "GrainPit$Notice", gin 979 (by decide +kernel) rfl, Or.inl rfl⟩
theorem fl_RX3_21 : FL RX3 21 3 2 RX3 TX3 7 := ⟨cf_3, by decide, "GrainPit$Notice", gin 981 (by decide +kernel) rfl, Or.inl rfl⟩
theorem fl_RX3_24 : FL RX3 24 3 3 RX3 TX3 7 := ⟨cf_3, by decide, "GrainPit$Notice", gin 983 (by decide +kernel) rfl, Or.inl rfl⟩
theorem fl_RX3_27 : FL RX3 27 3 6 RX3 TX3 7 := ⟨cf_3, by decide, "GrainPit$Notice", gin 989 (by decide +kernel) rfl, Or.inl rfl⟩
abbrev mX3_wasWith : Mth := (yX3_wasWith, cX3_wasWith, 2, (some .boolean : Option FieldType))
abbrev mX3_handTo : Mth := (yX3_handTo, cX3_handTo, 2, (none : Option FieldType))
theorem fl_RX3_30 : FL RX3 30 3 4 RX3 TX3 7 := ⟨cf_3, by decide, "GrainPit$Notice", gin 985 (by decide +kernel) rfl, Or.inl rfl⟩
abbrev mX4_init : Mth := (yX4_init, cX4_init, 1, (none : Option FieldType))
theorem ml_RX4_3 : Cond.methodLink RX4 3 Lib.objectInit ∈ lw_g := gin 131 (by decide +kernel) rfl
theorem cf_4 : CF 4 RX4 TX4 11 := ⟨rfl, cf_in [146, 148, 150, 152, 154, 156, 158, 160, 162, 164, 166] (by decide +kernel) (by decide +kernel), ⟨tyX4, tyX4_ok⟩, nmX4⟩
theorem fl_RX4_11 : FL RX4 11 4 0 RX4 TX4 11 := ⟨cf_4, by decide, "GrainPit$Reader", gin 132 (by decide +kernel) rfl, Or.inl rfl⟩
theorem ac_char : Cond.arrayClass .char ∈ lw_g := gin 169 (by decide +kernel) rfl
theorem fl_RX4_15 : FL RX4 15 4 9 RX4 TX4 11 := ⟨cf_4, by decide, "GrainPit$Reader", gin 144 (by decide +kernel) rfl, Or.inl rfl⟩
abbrev mX4_emit : Mth := (yX4_emit, cX4_emit, 2, (none : Option FieldType))
theorem fl_RX4_66 : FL RX4 66 4 10 RX4 TX4 11 := ⟨cf_4, by decide, "GrainPit$Reader", gin 145 (by decide +kernel) rfl, Or.inl rfl⟩
abbrev mX4_refuseIf : Mth := (yX4_refuseIf, cX4_refuseIf, 3, (none : Option FieldType))
theorem fl_RX4_38 : FL RX4 38 4 6 RX4 TX4 11 := ⟨cf_4, by decide, "GrainPit$Reader", gin 141 (by decide +kernel) rfl, Or.inl rfl⟩
theorem fl_RX4_29 : FL RX4 29 4 2 RX4 TX4 11 := ⟨cf_4, by decide, "GrainPit$Reader", gin 135 (by decide +kernel) rfl, Or.inl rfl⟩
theorem fl_RX4_111 : FL RX4 111 4 5 RX4 TX4 11 := ⟨cf_4, by decide, "GrainPit$Reader", gin 140 (by decide +kernel) rfl, Or.inl rfl⟩
theorem fl_RX4_32 : FL RX4 32 4 3 RX4 TX4 11 := ⟨cf_4, by decide, "GrainPit$Reader", gin 137 (by decide +kernel) rfl, Or.inl rfl⟩
abbrev mX4_append : Mth := (yX4_append, cX4_append, 3, (none : Option FieldType))
theorem fl_RX4_19 : FL RX4 19 4 1 RX4 TX4 11 := ⟨cf_4, by decide, "GrainPit$Reader", gin 133 (by decide +kernel) rfl, Or.inl rfl⟩
abbrev mX4_isDigit : Mth := (yX4_isDigit, cX4_isDigit, 1, (some .boolean : Option FieldType))
abbrev mX7_combine : Mth := (yX7_combine, cX7_combine, 3, (some .int : Option FieldType))
theorem ms_min : Cond.static Lib.Math.min.name ∈ lw_g := gin 379 (by decide +kernel) rfl
theorem w_mi : Cond.initialized "java/lang/Math" ∈ lw_g := gin 100 (by decide +kernel) rfl
theorem mc_min : Cond.code Lib.Math.min.name Lib.Math.min.code 2 (some .int) ∈ lw_g := gin 380 (by decide +kernel) rfl
theorem ml_RX7_72 : Cond.methodLink RX7 72 Lib.Math.min.name ∈ lw_g := gin 687 (by decide +kernel) rfl
theorem ms_max : Cond.static Lib.Math.max.name ∈ lw_g := gin 399 (by decide +kernel) rfl
theorem mc_max : Cond.code Lib.Math.max.name Lib.Math.max.code 2 (some .int) ∈ lw_g := gin 400 (by decide +kernel) rfl
theorem ml_RX7_78 : Cond.methodLink RX7 78 Lib.Math.max.name ∈ lw_g := gin 688 (by decide +kernel) rfl
abbrev mX12_in : Mth := (yX12_in, cX12_in, 6, (some .boolean : Option FieldType))
abbrev mX12_isMember : Mth := (yX12_isMember, cX12_isMember, 2, (some .boolean : Option FieldType))
theorem cf_12 : CF 12 RX12 TX12 48 := ⟨rfl, cf_in [1250, 1252, 1254, 1256, 1258, 1260, 1262, 1264, 1266, 1268, 1270, 1272, 1274, 1276, 1278, 1280, 1282, 1284, 1286, 1288, 1290, 1292, 1294, 1296, 1298, 1300, 1302, 1304, 1306, 1308, 1310, 1312, 1314, 1316, 1318, 1320, 1322, 1324, 1326, 1328, 1330, 1332, 1334, 1336, 1338, 1340, 1342, 1344] (by decide +kernel) (by decide +kernel), ⟨tyX12, tyX12_ok⟩, nmX12⟩
theorem fl_RX12_94 : FL RX12 94 12 10 RX12 TX12 48 := ⟨cf_12, by decide, "GrainPitModel", gin 1212 (by decide +kernel) rfl, Or.inl rfl⟩
theorem cy_X12_in : CY mX12_in 3 := ⟨gin 1440 (by decide +kernel) rfl, gin 95 (by decide +kernel) rfl, by decide +kernel, by decide⟩
theorem ml_RX12_97 : Cond.methodLink RX12 97 yX12_in ∈ lw_g := gin 1438 (by decide +kernel) rfl
theorem sm_X12_in : Cond.static yX12_in ∈ lw_g := gin 1439 (by decide +kernel) rfl
abbrev mX12_lay : Mth := (yX12_lay, cX12_lay, 3, (none : Option FieldType))
theorem fl_RX12_9 : FL RX12 9 12 0 RX12 TX12 48 := ⟨cf_12, by decide, "GrainPitModel", gin 1202 (by decide +kernel) rfl, Or.inl rfl⟩
theorem fl_RX12_103 : FL RX12 103 12 1 RX12 TX12 48 := ⟨cf_12, by decide, "GrainPitModel", gin 1203 (by decide +kernel) rfl, Or.inl rfl⟩
abbrev mX12_feed : Mth := (yX12_feed, cX12_feed, 6, (some .int : Option FieldType))
theorem fl_RX12_90 : FL RX12 90 12 35 RX12 TX12 48 := ⟨cf_12, by decide, "GrainPitModel", gin 1237 (by decide +kernel) rfl, Or.inl rfl⟩
theorem cy_X12_lay : CY mX12_lay 1 := ⟨gin 1359 (by decide +kernel) rfl, gin 95 (by decide +kernel) rfl, by decide +kernel, by decide⟩
theorem ml_RX12_106 : Cond.methodLink RX12 106 yX12_lay ∈ lw_g := gin 1356 (by decide +kernel) rfl
theorem im_X12_lay : Cond.instanceMethod yX12_lay ∈ lw_g := gin 1358 (by decide +kernel) rfl
theorem se_X12_lay : Cond.selects RX12 yX12_lay yX12_lay ∈ lw_g := gin 55 (by decide +kernel) rfl
abbrev mX12_settleOf : Mth := (yX12_settleOf, cX12_settleOf, 7, (some .int : Option FieldType))
theorem fl_RX12_63 : FL RX12 63 12 25 RX12 TX12 48 := ⟨cf_12, by decide, "GrainPitModel", gin 1227 (by decide +kernel) rfl, Or.inl rfl⟩
theorem fl_RX12_235 : FL RX12 235 12 30 RX12 TX12 48 := ⟨cf_12, by decide, "GrainPitModel", gin 1232 (by decide +kernel) rfl, Or.inl rfl⟩
theorem fl_RX12_75 : FL RX12 75 12 29 RX12 TX12 48 := ⟨cf_12, by decide, "GrainPitModel", gin 1231 (by decide +kernel) rfl, Or.inl rfl⟩
abbrev mX12_latest : Mth := (yX12_latest, cX12_latest, 2, (some .int : Option FieldType))
theorem fl_RX12_238 : FL RX12 238 12 24 RX12 TX12 48 := ⟨cf_12, by decide, "GrainPitModel", gin 1226 (by decide +kernel) rfl, Or.inl rfl⟩
theorem cy_X12_settleOf : CY mX12_settleOf 3 := ⟨gin 1490 (by decide +kernel) rfl, gin 95 (by decide +kernel) rfl, by decide +kernel, by decide⟩
theorem ml_RX12_241 : Cond.methodLink RX12 241 yX12_settleOf ∈ lw_g := gin 1487 (by decide +kernel) rfl
theorem im_X12_settleOf : Cond.instanceMethod yX12_settleOf ∈ lw_g := gin 1489 (by decide +kernel) rfl
theorem se_X12_settleOf : Cond.selects RX12 yX12_settleOf yX12_settleOf ∈ lw_g := gin 77 (by decide +kernel) rfl
abbrev mX12_move : Mth := (yX12_move, cX12_move, 13, (none : Option FieldType))
theorem fl_RX12_51 : FL RX12 51 12 18 RX12 TX12 48 := ⟨cf_12, by decide, "GrainPitModel", gin 1220 (by decide +kernel) rfl, Or.inl rfl⟩
theorem fl_RX12_39 : FL RX12 39 12 14 RX12 TX12 48 := ⟨cf_12, by decide, "GrainPitModel", gin 1216 (by decide +kernel) rfl, Or.inl rfl⟩
theorem fl_RX12_45 : FL RX12 45 12 16 RX12 TX12 48 := ⟨cf_12, by decide, "GrainPitModel", gin 1218 (by decide +kernel) rfl, Or.inl rfl⟩
theorem fl_RX12_48 : FL RX12 48 12 17 RX12 TX12 48 := ⟨cf_12, by decide, "GrainPitModel", gin 1219 (by decide +kernel) rfl, Or.inl rfl⟩
theorem fl_RX12_42 : FL RX12 42 12 15 RX12 TX12 48 := ⟨cf_12, by decide, "GrainPitModel", gin 1217 (by decide +kernel) rfl, Or.inl rfl⟩
abbrev mX12_fault : Mth := (yX12_fault, cX12_fault, 2, (some .int : Option FieldType))
theorem fl_RX12_159 : FL RX12 159 12 3 RX12 TX12 48 := ⟨cf_12, by decide, "GrainPitModel", gin 1205 (by decide +kernel) rfl, Or.inl rfl⟩
theorem fl_RX12_156 : FL RX12 156 12 2 RX12 TX12 48 := ⟨cf_12, by decide, "GrainPitModel", gin 1204 (by decide +kernel) rfl, Or.inl rfl⟩
def F_X2_isBetter (p0 : Int32) (p1 : Int32) (p2 : Int32) : M Int32 := if p0 = 0 then if p2 ≤ p1 then rz (0 : Int32) else rz (1 : Int32) else if p1 ≤ p2 then rz (0 : Int32) else rz (1 : Int32)
set_option maxRecDepth 100000 in
theorem C_X2_isBetter (Γ : Gam) (p0 : Int32) (p1 : Int32) (p2 : Int32) : Ct Γ mX2_isBetter 0 vI [.int p0, .int p1, .int p2] (F_X2_isBetter p0 p1 p2) := by
  refine ct_in (lv := [(0, .int p0), (1, .int p1), (2, .int p2)]) (by decide) (by first | rfl | (simp only [lv_args, cat_rf]; rfl)) (by first | exact Nat.le_of_ble_eq_true rfl | (rw [lg_len]; simp only [List.map_cons, List.map_nil, cat_rf]; exact Nat.le_of_ble_eq_true rfl)) ?_
  unfold F_X2_isBetter
  refine ok_iload_n (dd TX2_isBetter_0 0 rfl) 0 rfl ?_
  refine ok_if_eq (tgt := 17) (dd TX2_isBetter_0 1 rfl) (by decide) ?_ ?_
  · refine ok_iload_n (dd TX2_isBetter_0 9 rfl) 1 rfl ?_
    refine ok_iload_n (dd TX2_isBetter_0 10 rfl) 2 rfl ?_
    refine ok_icmp_ge (tgt := 26) (dd TX2_isBetter_0 11 rfl) (by decide) ?_ ?_
    · refine ok_iconst (v := (0 : Int32)) (dd TX2_isBetter_0 14 rfl) (by decide) ?_
      exact ok_zreturn (dd TX2_isBetter_0 15 rfl) rfl
    · refine ok_iconst (v := (1 : Int32)) (dd TX2_isBetter_0 12 rfl) (by decide) ?_
      refine ok_goto (tgt := 27) (dd TX2_isBetter_0 13 rfl) (by decide) ?_
      exact ok_zreturn (dd TX2_isBetter_0 15 rfl) rfl
  · refine ok_iload_n (dd TX2_isBetter_0 2 rfl) 1 rfl ?_
    refine ok_iload_n (dd TX2_isBetter_0 3 rfl) 2 rfl ?_
    refine ok_icmp_le (tgt := 13) (dd TX2_isBetter_0 4 rfl) (by decide) ?_ ?_
    · refine ok_iconst (v := (0 : Int32)) (dd TX2_isBetter_0 7 rfl) (by decide) ?_
      refine ok_goto (tgt := 27) (dd TX2_isBetter_0 8 rfl) (by decide) ?_
      exact ok_zreturn (dd TX2_isBetter_0 15 rfl) rfl
    · refine ok_iconst (v := (1 : Int32)) (dd TX2_isBetter_0 5 rfl) (by decide) ?_
      refine ok_goto (tgt := 27) (dd TX2_isBetter_0 6 rfl) (by decide) ?_
      exact ok_zreturn (dd TX2_isBetter_0 15 rfl) rfl
def F_X9_init (this : Nat) (p0 : Int32) (p1 : Int32) (p2 : Int32) (p3 : Int32) : M Unit := bn (wI 9 0 (some this) p0) fun _ => bn (wI 9 3 (some this) p1) fun _ => bn (wI 9 1 (some this) p2) fun _ => bn (wI 9 2 (some this) p3) fun _ => rt ()
set_option maxRecDepth 100000 in
theorem C_X9_init (Γ : Gam) (this : Nat) (p0 : Int32) (p1 : Int32) (p2 : Int32) (p3 : Int32) : Ct Γ mX9_init 1 vV [va_rf (some this), .int p0, .int p1, .int p2, .int p3] (F_X9_init this p0 p1 p2 p3) := by
  refine ct_in (lv := [(0, va_rf (some this)), (1, .int p0), (2, .int p1), (3, .int p2), (4, .int p3)]) (by decide) (by first | rfl | (simp only [lv_args, cat_rf]; rfl)) (by first | exact Nat.le_of_ble_eq_true rfl | (rw [lg_len]; simp only [List.map_cons, List.map_nil, cat_rf]; exact Nat.le_of_ble_eq_true rfl)) ?_
  unfold F_X9_init
  refine ok_aload_n (dd TX9_init_0 0 rfl) 0 rfl ?_
  refine ok_objInit ml_RX9_1 w_oi w_oc ⟨_, rfl⟩ (by decide) (by decide) (dd TX9_init_0 1 rfl) ?_
  refine ok_aload_n (dd TX9_init_0 2 rfl) 0 rfl ?_
  refine ok_iload_n (dd TX9_init_0 3 rfl) 1 rfl ?_
  refine ok_wI fl_RX9_7 (Or.inr ⟨rfl, rfl, rfl⟩) (tyX9_ok 0 (by decide)) (by decide) rfl (dd TX9_init_0 4 rfl) ?_
  refine ok_aload_n (dd TX9_init_0 5 rfl) 0 rfl ?_
  refine ok_iload_n (dd TX9_init_0 6 rfl) 2 rfl ?_
  refine ok_wI fl_RX9_13 (Or.inl rfl) (tyX9_ok 3 (by decide)) (by decide) rfl (dd TX9_init_0 7 rfl) ?_
  refine ok_aload_n (dd TX9_init_0 8 rfl) 0 rfl ?_
  refine ok_iload_n (dd TX9_init_0 9 rfl) 3 rfl ?_
  refine ok_wI fl_RX9_16 (Or.inr ⟨rfl, rfl, rfl⟩) (tyX9_ok 1 (by decide)) (by decide) rfl (dd TX9_init_0 10 rfl) ?_
  refine ok_aload_n (dd TX9_init_0 11 rfl) 0 rfl ?_
  refine ok_iload (dd TX9_init_0 12 rfl) 4 rfl ?_
  refine ok_wI fl_RX9_19 (Or.inr ⟨rfl, rfl, rfl⟩) (tyX9_ok 2 (by decide)) (by decide) rfl (dd TX9_init_0 13 rfl) ?_
  exact ok_return (dd TX9_init_0 14 rfl) rfl
def F_X7_push (this : Nat) (p0 : Int32) : M Unit := bn (gI 7 3 (some this)) fun v1 => bn (gP 7 2 (some this)) fun v2 => bn (len v2) fun v3 => if v3 ≤ v1 then rt () else bn (gP 7 2 (some this)) fun v4 => bn (gI 7 3 (some this)) fun v5 => bn (stI 144 v4 v5 p0) fun _ => bn (gI 7 3 (some this)) fun v6 => bn (wI 7 3 (some this) (v6 + (1 : Int32))) fun _ => rt ()
set_option maxRecDepth 100000 in
theorem C_X7_push (Γ : Gam) (this : Nat) (p0 : Int32) : Ct Γ mX7_push 0 vV [va_rf (some this), .int p0] (F_X7_push this p0) := by
  refine ct_in (lv := [(0, va_rf (some this)), (1, .int p0)]) (by decide) (by first | rfl | (simp only [lv_args, cat_rf]; rfl)) (by first | exact Nat.le_of_ble_eq_true rfl | (rw [lg_len]; simp only [List.map_cons, List.map_nil, cat_rf]; exact Nat.le_of_ble_eq_true rfl)) ?_
  unfold F_X7_push
  refine ok_aload_n (dd TX7_push_0 0 rfl) 0 rfl ?_
  refine ok_gI fl_RX7_55 rfl (dd TX7_push_0 1 rfl) (fun v1 => ?_)
  refine ok_aload_n (dd TX7_push_0 2 rfl) 0 rfl ?_
  refine ok_gP fl_RX7_24 rfl (dd TX7_push_0 3 rfl) (fun v2 => ?_)
  refine ok_len (dd TX7_push_0 4 rfl) (fun v3 => ?_)
  refine ok_icmp_ge (tgt := 32) (dd TX7_push_0 5 rfl) (by decide) ?_ ?_
  · exact ok_return (dd TX7_push_0 18 rfl) rfl
  · refine ok_aload_n (dd TX7_push_0 6 rfl) 0 rfl ?_
    refine ok_gP fl_RX7_24 rfl (dd TX7_push_0 7 rfl) (fun v4 => ?_)
    refine ok_aload_n (dd TX7_push_0 8 rfl) 0 rfl ?_
    refine ok_gI fl_RX7_55 rfl (dd TX7_push_0 9 rfl) (fun v5 => ?_)
    refine ok_iload_n (dd TX7_push_0 10 rfl) 1 rfl ?_
    refine ok_stI (kd := 144) (by decide) rfl (dd TX7_push_0 11 rfl) ?_
    refine ok_aload_n (dd TX7_push_0 12 rfl) 0 rfl ?_
    refine ok_dup (dd TX7_push_0 13 rfl) (by first | rfl | exact cat_rf _) ?_
    refine ok_gI fl_RX7_55 rfl (dd TX7_push_0 14 rfl) (fun v6 => ?_)
    refine ok_iconst (v := (1 : Int32)) (dd TX7_push_0 15 rfl) (by decide) ?_
    refine ok_iadd (dd TX7_push_0 16 rfl) ?_
    refine ok_wI fl_RX7_55 (Or.inl rfl) (tyX7_ok 3 (by decide)) (by decide) rfl (dd TX7_push_0 17 rfl) ?_
    exact ok_return (dd TX7_push_0 18 rfl) rfl
def F_X7_pop (this : Nat) : M Int32 := bn (gI 7 3 (some this)) fun v1 => if ¬ v1 = 0 then bn (gI 7 3 (some this)) fun v2 => bn (wI 7 3 (some this) (v2 - (1 : Int32))) fun _ => bn (gP 7 2 (some this)) fun v3 => bn (gI 7 3 (some this)) fun v4 => bn (lI 144 v3 v4) fun v5 => rt v5 else rt (0 : Int32)
set_option maxRecDepth 100000 in
theorem C_X7_pop (Γ : Gam) (this : Nat) : Ct Γ mX7_pop 0 vI [va_rf (some this)] (F_X7_pop this) := by
  refine ct_in (lv := [(0, va_rf (some this))]) (by decide) (by first | rfl | (simp only [lv_args, cat_rf]; rfl)) (by first | exact Nat.le_of_ble_eq_true rfl | (rw [lg_len]; simp only [List.map_cons, List.map_nil, cat_rf]; exact Nat.le_of_ble_eq_true rfl)) ?_
  unfold F_X7_pop
  refine ok_aload_n (dd TX7_pop_0 0 rfl) 0 rfl ?_
  refine ok_gI fl_RX7_55 rfl (dd TX7_pop_0 1 rfl) (fun v1 => ?_)
  refine ok_if_ne (tgt := 9) (dd TX7_pop_0 2 rfl) (by decide) ?_ ?_
  · refine ok_aload_n (dd TX7_pop_0 5 rfl) 0 rfl ?_
    refine ok_dup (dd TX7_pop_0 6 rfl) (by first | rfl | exact cat_rf _) ?_
    refine ok_gI fl_RX7_55 rfl (dd TX7_pop_0 7 rfl) (fun v2 => ?_)
    refine ok_iconst (v := (1 : Int32)) (dd TX7_pop_0 8 rfl) (by decide) ?_
    refine ok_isub (dd TX7_pop_0 9 rfl) ?_
    refine ok_wI fl_RX7_55 (Or.inl rfl) (tyX7_ok 3 (by decide)) (by decide) rfl (dd TX7_pop_0 10 rfl) ?_
    refine ok_aload_n (dd TX7_pop_0 11 rfl) 0 rfl ?_
    refine ok_gP fl_RX7_24 rfl (dd TX7_pop_0 12 rfl) (fun v3 => ?_)
    refine ok_aload_n (dd TX7_pop_0 13 rfl) 0 rfl ?_
    refine ok_gI fl_RX7_55 rfl (dd TX7_pop_0 14 rfl) (fun v4 => ?_)
    refine ok_lI (kd := 144) (by decide) rfl (dd TX7_pop_0 15 rfl) (fun v5 => ?_)
    exact ok_ireturn (dd TX7_pop_0 16 rfl) rfl
  · refine ok_iconst (v := (0 : Int32)) (dd TX7_pop_0 3 rfl) (by decide) ?_
    exact ok_ireturn (dd TX7_pop_0 4 rfl) rfl
def F_X1_gain (this : Nat) (p0 : Int32) (p1 : Int32) (p2 : Int32) : M Unit := bn (gP 1 0 (some this)) fun v1 => bn (lI 104 v1 p0) fun v2 => bn (stI 104 v1 p0 (v2 + p1)) fun _ => bn (gLg 1 1 (some this)) fun v3 => bn (wL 1 1 (some this) (v3 + (p1.toInt64 * p2.toInt64))) fun _ => rt ()
set_option maxRecDepth 100000 in
theorem C_X1_gain (Γ : Gam) (this : Nat) (p0 : Int32) (p1 : Int32) (p2 : Int32) : Ct Γ mX1_gain 0 vV [va_rf (some this), .int p0, .int p1, .int p2] (F_X1_gain this p0 p1 p2) := by
  refine ct_in (lv := [(0, va_rf (some this)), (1, .int p0), (2, .int p1), (3, .int p2)]) (by decide) (by first | rfl | (simp only [lv_args, cat_rf]; rfl)) (by first | exact Nat.le_of_ble_eq_true rfl | (rw [lg_len]; simp only [List.map_cons, List.map_nil, cat_rf]; exact Nat.le_of_ble_eq_true rfl)) ?_
  unfold F_X1_gain
  refine ok_aload_n (dd TX1_gain_0 0 rfl) 0 rfl ?_
  refine ok_gP fl_RX1_9 rfl (dd TX1_gain_0 1 rfl) (fun v1 => ?_)
  refine ok_iload_n (dd TX1_gain_0 2 rfl) 1 rfl ?_
  refine ok_dup2_11 (dd TX1_gain_0 3 rfl) (by first | rfl | exact cat_rf _) (by first | rfl | exact cat_rf _) ?_
  refine ok_lI (kd := 104) (by decide) rfl (dd TX1_gain_0 4 rfl) (fun v2 => ?_)
  refine ok_iload_n (dd TX1_gain_0 5 rfl) 2 rfl ?_
  refine ok_iadd (dd TX1_gain_0 6 rfl) ?_
  refine ok_stI (kd := 104) (by decide) rfl (dd TX1_gain_0 7 rfl) ?_
  refine ok_aload_n (dd TX1_gain_0 8 rfl) 0 rfl ?_
  refine ok_dup (dd TX1_gain_0 9 rfl) (by first | rfl | exact cat_rf _) ?_
  refine ok_gL fl_RX1_15 rfl (dd TX1_gain_0 10 rfl) (fun v3 => ?_)
  refine ok_iload_n (dd TX1_gain_0 11 rfl) 2 rfl ?_
  refine ok_i2l (dd TX1_gain_0 12 rfl) ?_
  refine ok_iload_n (dd TX1_gain_0 13 rfl) 3 rfl ?_
  refine ok_i2l (dd TX1_gain_0 14 rfl) ?_
  refine ok_lmul (dd TX1_gain_0 15 rfl) ?_
  refine ok_ladd (dd TX1_gain_0 16 rfl) ?_
  refine ok_wL fl_RX1_15 (Or.inl rfl) (tyX1_ok 1 (by decide)) (by decide) rfl (dd TX1_gain_0 17 rfl) ?_
  exact ok_return (dd TX1_gain_0 18 rfl) rfl
def F_X1_init (this : Nat) : M Unit := bn (newA 104 (6 : Int32)) fun r1 => bn (wP 1 0 (some this) r1) fun _ => rt ()
set_option maxRecDepth 100000 in
theorem C_X1_init (Γ : Gam) (this : Nat) : Ct Γ mX1_init 1 vV [va_rf (some this)] (F_X1_init this) := by
  refine ct_in (lv := [(0, va_rf (some this))]) (by decide) (by first | rfl | (simp only [lv_args, cat_rf]; rfl)) (by first | exact Nat.le_of_ble_eq_true rfl | (rw [lg_len]; simp only [List.map_cons, List.map_nil, cat_rf]; exact Nat.le_of_ble_eq_true rfl)) ?_
  unfold F_X1_init
  refine ok_aload_n (dd TX1_init_0 0 rfl) 0 rfl ?_
  refine ok_objInit ml_RX1_3 w_oi w_oc ⟨_, rfl⟩ (by decide) (by decide) (dd TX1_init_0 1 rfl) ?_
  refine ok_aload_n (dd TX1_init_0 2 rfl) 0 rfl ?_
  refine ok_bipush (v := (6 : Int32)) (dd TX1_init_0 3 rfl) (by decide) ?_
  refine ok_newAI (kd := 104) (by decide) rfl ac_int (dd TX1_init_0 4 rfl) (fun r1 => ?_)
  refine ok_wP fl_RX1_9 (Or.inr ⟨rfl, rfl, rfl⟩) (tyX1_ok 0 (by decide)) rf_arr (by decide) rfl (dd TX1_init_0 5 rfl) ?_
  exact ok_return (dd TX1_init_0 6 rfl) rfl
def F_X0_init (this : Nat) (p0 : Int32) : M Unit := bn (newA 86 (6 : Int32)) fun r1 => bn (wP 0 0 (some this) r1) fun _ => bn (newA 88 (p0 * (6 : Int32))) fun r2 => bn (wP 0 1 (some this) r2) fun _ => bn (newA 97 p0) fun r3 => bn (wP 0 2 (some this) r3) fun _ => rt ()
set_option maxRecDepth 100000 in
theorem C_X0_init (Γ : Gam) (this : Nat) (p0 : Int32) : Ct Γ mX0_init 1 vV [va_rf (some this), .int p0] (F_X0_init this p0) := by
  refine ct_in (lv := [(0, va_rf (some this)), (1, .int p0)]) (by decide) (by first | rfl | (simp only [lv_args, cat_rf]; rfl)) (by first | exact Nat.le_of_ble_eq_true rfl | (rw [lg_len]; simp only [List.map_cons, List.map_nil, cat_rf]; exact Nat.le_of_ble_eq_true rfl)) ?_
  unfold F_X0_init
  refine ok_aload_n (dd TX0_init_0 0 rfl) 0 rfl ?_
  refine ok_objInit ml_RX0_3 w_oi w_oc ⟨_, rfl⟩ (by decide) (by decide) (dd TX0_init_0 1 rfl) ?_
  refine ok_aload_n (dd TX0_init_0 2 rfl) 0 rfl ?_
  refine ok_bipush (v := (6 : Int32)) (dd TX0_init_0 3 rfl) (by decide) ?_
  refine ok_newA6 (kd := 86) (by decide) rfl cw_RX0_9 ao_GrainPit_Settle (dd TX0_init_0 4 rfl) (fun r1 => ?_)
  refine ok_wP fl_RX0_11 (Or.inr ⟨rfl, rfl, rfl⟩) (tyX0_ok 0 (by decide)) rf_arr (by decide) rfl (dd TX0_init_0 5 rfl) ?_
  refine ok_aload_n (dd TX0_init_0 6 rfl) 0 rfl ?_
  refine ok_iload_n (dd TX0_init_0 7 rfl) 1 rfl ?_
  refine ok_bipush (v := (6 : Int32)) (dd TX0_init_0 8 rfl) (by decide) ?_
  refine ok_imul (dd TX0_init_0 9 rfl) ?_
  refine ok_newAI (kd := 88) (by decide) rfl ac_int (dd TX0_init_0 10 rfl) (fun r2 => ?_)
  refine ok_wP fl_RX0_17 (Or.inr ⟨rfl, rfl, rfl⟩) (tyX0_ok 1 (by decide)) rf_arr (by decide) rfl (dd TX0_init_0 11 rfl) ?_
  refine ok_aload_n (dd TX0_init_0 12 rfl) 0 rfl ?_
  refine ok_iload_n (dd TX0_init_0 13 rfl) 1 rfl ?_
  refine ok_newAL (kd := 97) (by decide) rfl ac_long (dd TX0_init_0 14 rfl) (fun r3 => ?_)
  refine ok_wP fl_RX0_21 (Or.inr ⟨rfl, rfl, rfl⟩) (tyX0_ok 2 (by decide)) rf_arr (by decide) rfl (dd TX0_init_0 15 rfl) ?_
  exact ok_return (dd TX0_init_0 16 rfl) rfl
def F_X8_init (this : Nat) (p0 : Int32) (p1 : Int32) (p2 : Option Nat) : M Unit := bn (wI 8 0 (some this) p0) fun _ => bn (wI 8 1 (some this) p1) fun _ => bn (wP 8 2 (some this) p2) fun _ => rt ()
set_option maxRecDepth 100000 in
theorem C_X8_init (Γ : Gam) (this : Nat) (p0 : Int32) (p1 : Int32) (p2 : Option Nat) : Ct Γ mX8_init 1 vV [va_rf (some this), .int p0, .int p1, va_rf p2] (F_X8_init this p0 p1 p2) := by
  refine ct_in (lv := [(0, va_rf (some this)), (1, .int p0), (2, .int p1), (3, va_rf p2)]) (by decide) (by first | rfl | (simp only [lv_args, cat_rf]; rfl)) (by first | exact Nat.le_of_ble_eq_true rfl | (rw [lg_len]; simp only [List.map_cons, List.map_nil, cat_rf]; exact Nat.le_of_ble_eq_true rfl)) ?_
  unfold F_X8_init
  refine ok_aload_n (dd TX8_init_0 0 rfl) 0 rfl ?_
  refine ok_objInit ml_RX8_1 w_oi w_oc ⟨_, rfl⟩ (by decide) (by decide) (dd TX8_init_0 1 rfl) ?_
  refine ok_aload_n (dd TX8_init_0 2 rfl) 0 rfl ?_
  refine ok_iload_n (dd TX8_init_0 3 rfl) 1 rfl ?_
  refine ok_wI fl_RX8_7 (Or.inr ⟨rfl, rfl, rfl⟩) (tyX8_ok 0 (by decide)) (by decide) rfl (dd TX8_init_0 4 rfl) ?_
  refine ok_aload_n (dd TX8_init_0 5 rfl) 0 rfl ?_
  refine ok_iload_n (dd TX8_init_0 6 rfl) 2 rfl ?_
  refine ok_wI fl_RX8_13 (Or.inr ⟨rfl, rfl, rfl⟩) (tyX8_ok 1 (by decide)) (by decide) rfl (dd TX8_init_0 7 rfl) ?_
  refine ok_aload_n (dd TX8_init_0 8 rfl) 0 rfl ?_
  refine ok_aload_n (dd TX8_init_0 9 rfl) 3 rfl ?_
  refine ok_wP fl_RX8_16 (Or.inr ⟨rfl, rfl, rfl⟩) (tyX8_ok 2 (by decide)) rf_obj (by decide) rfl (dd TX8_init_0 10 rfl) ?_
  exact ok_return (dd TX8_init_0 11 rfl) rfl
def F_X3_init (this : Nat) (p0 : Int32) (p1 : Int32) (p2 : Int32) (p3 : Int32) : M Unit := bn (wI 3 5 (some this) (1 : Int32)) fun _ => bn (wI 3 0 (some this) p0) fun _ => bn (wI 3 1 (some this) p1) fun _ => bn (wI 3 2 (some this) p2) fun _ => bn (wI 3 3 (some this) p3) fun _ => bn (wI 3 6 (some this) ((1 : Int32) <<< (p3 &&& 31))) fun _ => rt ()
set_option maxRecDepth 100000 in
theorem C_X3_init (Γ : Gam) (this : Nat) (p0 : Int32) (p1 : Int32) (p2 : Int32) (p3 : Int32) : Ct Γ mX3_init 1 vV [va_rf (some this), .int p0, .int p1, .int p2, .int p3] (F_X3_init this p0 p1 p2 p3) := by
  refine ct_in (lv := [(0, va_rf (some this)), (1, .int p0), (2, .int p1), (3, .int p2), (4, .int p3)]) (by decide) (by first | rfl | (simp only [lv_args, cat_rf]; rfl)) (by first | exact Nat.le_of_ble_eq_true rfl | (rw [lg_len]; simp only [List.map_cons, List.map_nil, cat_rf]; exact Nat.le_of_ble_eq_true rfl)) ?_
  unfold F_X3_init
  refine ok_aload_n (dd TX3_init_0 0 rfl) 0 rfl ?_
  refine ok_objInit ml_RX3_3 w_oi w_oc ⟨_, rfl⟩ (by decide) (by decide) (dd TX3_init_0 1 rfl) ?_
  refine ok_aload_n (dd TX3_init_0 2 rfl) 0 rfl ?_
  refine ok_iconst (v := (1 : Int32)) (dd TX3_init_0 3 rfl) (by decide) ?_
  refine ok_wI fl_RX3_9 (Or.inl rfl) (tyX3_ok 5 (by decide)) (by decide) rfl (dd TX3_init_0 4 rfl) ?_
  refine ok_aload_n (dd TX3_init_0 5 rfl) 0 rfl ?_
  refine ok_iload_n (dd TX3_init_0 6 rfl) 1 rfl ?_
  refine ok_wI fl_RX3_15 (Or.inr ⟨rfl, rfl, rfl⟩) (tyX3_ok 0 (by decide)) (by decide) rfl (dd TX3_init_0 7 rfl) ?_
  refine ok_aload_n (dd TX3_init_0 8 rfl) 0 rfl ?_
  refine ok_iload_n (dd TX3_init_0 9 rfl) 2 rfl ?_
  refine ok_wI fl_RX3_18 (Or.inr ⟨rfl, rfl, rfl⟩) (tyX3_ok 1 (by decide)) (by decide) rfl (dd TX3_init_0 10 rfl) ?_
  refine ok_aload_n (dd TX3_init_0 11 rfl) 0 rfl ?_
  refine ok_iload_n (dd TX3_init_0 12 rfl) 3 rfl ?_
  refine ok_wI fl_RX3_21 (Or.inr ⟨rfl, rfl, rfl⟩) (tyX3_ok 2 (by decide)) (by decide) rfl (dd TX3_init_0 13 rfl) ?_
  refine ok_aload_n (dd TX3_init_0 14 rfl) 0 rfl ?_
  refine ok_iload (dd TX3_init_0 15 rfl) 4 rfl ?_
  refine ok_wI fl_RX3_24 (Or.inl rfl) (tyX3_ok 3 (by decide)) (by decide) rfl (dd TX3_init_0 16 rfl) ?_
  refine ok_aload_n (dd TX3_init_0 17 rfl) 0 rfl ?_
  refine ok_iconst (v := (1 : Int32)) (dd TX3_init_0 18 rfl) (by decide) ?_
  refine ok_iload (dd TX3_init_0 19 rfl) 4 rfl ?_
  refine ok_ishl (dd TX3_init_0 20 rfl) ?_
  refine ok_wI fl_RX3_27 (Or.inl rfl) (tyX3_ok 6 (by decide)) (by decide) rfl (dd TX3_init_0 21 rfl) ?_
  exact ok_return (dd TX3_init_0 22 rfl) rfl
def F_X3_wasWith (this : Nat) (p0 : Int32) : M Int32 := bn (gI 3 6 (some this)) fun v1 => if ¬ ((v1 >>> (p0 &&& 31)) &&& (1 : Int32)) = (1 : Int32) then rz (0 : Int32) else rz (1 : Int32)
set_option maxRecDepth 100000 in
theorem C_X3_wasWith (Γ : Gam) (this : Nat) (p0 : Int32) : Ct Γ mX3_wasWith 0 vI [va_rf (some this), .int p0] (F_X3_wasWith this p0) := by
  refine ct_in (lv := [(0, va_rf (some this)), (1, .int p0)]) (by decide) (by first | rfl | (simp only [lv_args, cat_rf]; rfl)) (by first | exact Nat.le_of_ble_eq_true rfl | (rw [lg_len]; simp only [List.map_cons, List.map_nil, cat_rf]; exact Nat.le_of_ble_eq_true rfl)) ?_
  unfold F_X3_wasWith
  refine ok_aload_n (dd TX3_wasWith_0 0 rfl) 0 rfl ?_
  refine ok_gI fl_RX3_27 rfl (dd TX3_wasWith_0 1 rfl) (fun v1 => ?_)
  refine ok_iload_n (dd TX3_wasWith_0 2 rfl) 1 rfl ?_
  refine ok_ishr (dd TX3_wasWith_0 3 rfl) ?_
  refine ok_iconst (v := (1 : Int32)) (dd TX3_wasWith_0 4 rfl) (by decide) ?_
  refine ok_iand (dd TX3_wasWith_0 5 rfl) ?_
  refine ok_iconst (v := (1 : Int32)) (dd TX3_wasWith_0 6 rfl) (by decide) ?_
  refine ok_icmp_ne (tgt := 16) (dd TX3_wasWith_0 7 rfl) (by decide) ?_ ?_
  · refine ok_iconst (v := (0 : Int32)) (dd TX3_wasWith_0 10 rfl) (by decide) ?_
    exact ok_zreturn (dd TX3_wasWith_0 11 rfl) rfl
  · refine ok_iconst (v := (1 : Int32)) (dd TX3_wasWith_0 8 rfl) (by decide) ?_
    refine ok_goto (tgt := 17) (dd TX3_wasWith_0 9 rfl) (by decide) ?_
    exact ok_zreturn (dd TX3_wasWith_0 11 rfl) rfl
def F_X3_handTo (this : Nat) (p0 : Int32) : M Unit := bn (wI 3 3 (some this) p0) fun _ => bn (gI 3 6 (some this)) fun v1 => bn (wI 3 6 (some this) (v1 ||| ((1 : Int32) <<< (p0 &&& 31)))) fun _ => bn (gI 3 4 (some this)) fun v2 => bn (wI 3 4 (some this) (v2 + (1 : Int32))) fun _ => rt ()
set_option maxRecDepth 100000 in
theorem C_X3_handTo (Γ : Gam) (this : Nat) (p0 : Int32) : Ct Γ mX3_handTo 0 vV [va_rf (some this), .int p0] (F_X3_handTo this p0) := by
  refine ct_in (lv := [(0, va_rf (some this)), (1, .int p0)]) (by decide) (by first | rfl | (simp only [lv_args, cat_rf]; rfl)) (by first | exact Nat.le_of_ble_eq_true rfl | (rw [lg_len]; simp only [List.map_cons, List.map_nil, cat_rf]; exact Nat.le_of_ble_eq_true rfl)) ?_
  unfold F_X3_handTo
  refine ok_aload_n (dd TX3_handTo_0 0 rfl) 0 rfl ?_
  refine ok_iload_n (dd TX3_handTo_0 1 rfl) 1 rfl ?_
  refine ok_wI fl_RX3_24 (Or.inl rfl) (tyX3_ok 3 (by decide)) (by decide) rfl (dd TX3_handTo_0 2 rfl) ?_
  refine ok_aload_n (dd TX3_handTo_0 3 rfl) 0 rfl ?_
  refine ok_dup (dd TX3_handTo_0 4 rfl) (by first | rfl | exact cat_rf _) ?_
  refine ok_gI fl_RX3_27 rfl (dd TX3_handTo_0 5 rfl) (fun v1 => ?_)
  refine ok_iconst (v := (1 : Int32)) (dd TX3_handTo_0 6 rfl) (by decide) ?_
  refine ok_iload_n (dd TX3_handTo_0 7 rfl) 1 rfl ?_
  refine ok_ishl (dd TX3_handTo_0 8 rfl) ?_
  refine ok_ior (dd TX3_handTo_0 9 rfl) ?_
  refine ok_wI fl_RX3_27 (Or.inl rfl) (tyX3_ok 6 (by decide)) (by decide) rfl (dd TX3_handTo_0 10 rfl) ?_
  refine ok_aload_n (dd TX3_handTo_0 11 rfl) 0 rfl ?_
  refine ok_dup (dd TX3_handTo_0 12 rfl) (by first | rfl | exact cat_rf _) ?_
  refine ok_gI fl_RX3_30 rfl (dd TX3_handTo_0 13 rfl) (fun v2 => ?_)
  refine ok_iconst (v := (1 : Int32)) (dd TX3_handTo_0 14 rfl) (by decide) ?_
  refine ok_iadd (dd TX3_handTo_0 15 rfl) ?_
  refine ok_wI fl_RX3_30 (Or.inl rfl) (tyX3_ok 4 (by decide)) (by decide) rfl (dd TX3_handTo_0 16 rfl) ?_
  exact ok_return (dd TX3_handTo_0 17 rfl) rfl
def F_X4_init (this : Nat) : M Unit := bn (newA 115 (600 : Int32)) fun r1 => bn (wP 4 0 (some this) r1) fun _ => bn (newA 120 (60 : Int32)) fun r2 => bn (wP 4 9 (some this) r2) fun _ => rt ()
set_option maxRecDepth 100000 in
theorem C_X4_init (Γ : Gam) (this : Nat) : Ct Γ mX4_init 1 vV [va_rf (some this)] (F_X4_init this) := by
  refine ct_in (lv := [(0, va_rf (some this))]) (by decide) (by first | rfl | (simp only [lv_args, cat_rf]; rfl)) (by first | exact Nat.le_of_ble_eq_true rfl | (rw [lg_len]; simp only [List.map_cons, List.map_nil, cat_rf]; exact Nat.le_of_ble_eq_true rfl)) ?_
  unfold F_X4_init
  refine ok_aload_n (dd TX4_init_0 0 rfl) 0 rfl ?_
  refine ok_objInit ml_RX4_3 w_oi w_oc ⟨_, rfl⟩ (by decide) (by decide) (dd TX4_init_0 1 rfl) ?_
  refine ok_aload_n (dd TX4_init_0 2 rfl) 0 rfl ?_
  refine ok_sipush (v := (600 : Int32)) (dd TX4_init_0 3 rfl) (by decide) ?_
  refine ok_newAC (kd := 115) (by decide) rfl ac_char (dd TX4_init_0 4 rfl) (fun r1 => ?_)
  refine ok_wP fl_RX4_11 (Or.inr ⟨rfl, rfl, rfl⟩) (tyX4_ok 0 (by decide)) rf_arr (by decide) rfl (dd TX4_init_0 5 rfl) ?_
  refine ok_aload_n (dd TX4_init_0 6 rfl) 0 rfl ?_
  refine ok_bipush (v := (60 : Int32)) (dd TX4_init_0 7 rfl) (by decide) ?_
  refine ok_newAI (kd := 120) (by decide) rfl ac_int (dd TX4_init_0 8 rfl) (fun r2 => ?_)
  refine ok_wP fl_RX4_15 (Or.inr ⟨rfl, rfl, rfl⟩) (tyX4_ok 9 (by decide)) rf_arr (by decide) rfl (dd TX4_init_0 9 rfl) ?_
  exact ok_return (dd TX4_init_0 10 rfl) rfl
def F_X4_emit (this : Nat) (p0 : Int32) : M Unit := bn (gI 4 10 (some this)) fun v1 => bn (gP 4 9 (some this)) fun v2 => bn (len v2) fun v3 => if v3 ≤ v1 then rt () else bn (gP 4 9 (some this)) fun v4 => bn (gI 4 10 (some this)) fun v5 => bn (stI 120 v4 v5 p0) fun _ => bn (gI 4 10 (some this)) fun v6 => bn (wI 4 10 (some this) (v6 + (1 : Int32))) fun _ => rt ()
set_option maxRecDepth 100000 in
theorem C_X4_emit (Γ : Gam) (this : Nat) (p0 : Int32) : Ct Γ mX4_emit 0 vV [va_rf (some this), .int p0] (F_X4_emit this p0) := by
  refine ct_in (lv := [(0, va_rf (some this)), (1, .int p0)]) (by decide) (by first | rfl | (simp only [lv_args, cat_rf]; rfl)) (by first | exact Nat.le_of_ble_eq_true rfl | (rw [lg_len]; simp only [List.map_cons, List.map_nil, cat_rf]; exact Nat.le_of_ble_eq_true rfl)) ?_
  unfold F_X4_emit
  refine ok_aload_n (dd TX4_emit_0 0 rfl) 0 rfl ?_
  refine ok_gI fl_RX4_66 rfl (dd TX4_emit_0 1 rfl) (fun v1 => ?_)
  refine ok_aload_n (dd TX4_emit_0 2 rfl) 0 rfl ?_
  refine ok_gP fl_RX4_15 rfl (dd TX4_emit_0 3 rfl) (fun v2 => ?_)
  refine ok_len (dd TX4_emit_0 4 rfl) (fun v3 => ?_)
  refine ok_icmp_ge (tgt := 32) (dd TX4_emit_0 5 rfl) (by decide) ?_ ?_
  · exact ok_return (dd TX4_emit_0 18 rfl) rfl
  · refine ok_aload_n (dd TX4_emit_0 6 rfl) 0 rfl ?_
    refine ok_gP fl_RX4_15 rfl (dd TX4_emit_0 7 rfl) (fun v4 => ?_)
    refine ok_aload_n (dd TX4_emit_0 8 rfl) 0 rfl ?_
    refine ok_gI fl_RX4_66 rfl (dd TX4_emit_0 9 rfl) (fun v5 => ?_)
    refine ok_iload_n (dd TX4_emit_0 10 rfl) 1 rfl ?_
    refine ok_stI (kd := 120) (by decide) rfl (dd TX4_emit_0 11 rfl) ?_
    refine ok_aload_n (dd TX4_emit_0 12 rfl) 0 rfl ?_
    refine ok_dup (dd TX4_emit_0 13 rfl) (by first | rfl | exact cat_rf _) ?_
    refine ok_gI fl_RX4_66 rfl (dd TX4_emit_0 14 rfl) (fun v6 => ?_)
    refine ok_iconst (v := (1 : Int32)) (dd TX4_emit_0 15 rfl) (by decide) ?_
    refine ok_iadd (dd TX4_emit_0 16 rfl) ?_
    refine ok_wI fl_RX4_66 (Or.inl rfl) (tyX4_ok 10 (by decide)) (by decide) rfl (dd TX4_emit_0 17 rfl) ?_
    exact ok_return (dd TX4_emit_0 18 rfl) rfl
def F_X4_refuseIf (this : Nat) (p0 : Int32) (p1 : Int32) : M Unit := if p0 = 0 then rt () else bn (gI 4 6 (some this)) fun v1 => if v1 = (18 : Int32) then rt () else bn (wI 4 2 (some this) p1) fun _ => bn (gI 4 5 (some this)) fun v2 => bn (wI 4 3 (some this) v2) fun _ => bn (wI 4 6 (some this) (18 : Int32)) fun _ => rt ()
set_option maxRecDepth 100000 in
theorem C_X4_refuseIf (Γ : Gam) (this : Nat) (p0 : Int32) (p1 : Int32) : Ct Γ mX4_refuseIf 0 vV [va_rf (some this), .int p0, .int p1] (F_X4_refuseIf this p0 p1) := by
  refine ct_in (lv := [(0, va_rf (some this)), (1, .int p0), (2, .int p1)]) (by decide) (by first | rfl | (simp only [lv_args, cat_rf]; rfl)) (by first | exact Nat.le_of_ble_eq_true rfl | (rw [lg_len]; simp only [List.map_cons, List.map_nil, cat_rf]; exact Nat.le_of_ble_eq_true rfl)) ?_
  unfold F_X4_refuseIf
  refine ok_iload_n (dd TX4_refuseIf_0 0 rfl) 1 rfl ?_
  refine ok_if_eq (tgt := 32) (dd TX4_refuseIf_0 1 rfl) (by decide) ?_ ?_
  · exact ok_return (dd TX4_refuseIf_0 16 rfl) rfl
  · refine ok_aload_n (dd TX4_refuseIf_0 2 rfl) 0 rfl ?_
    refine ok_gI fl_RX4_38 rfl (dd TX4_refuseIf_0 3 rfl) (fun v1 => ?_)
    refine ok_bipush (v := (18 : Int32)) (dd TX4_refuseIf_0 4 rfl) (by decide) ?_
    refine ok_icmp_eq (tgt := 32) (dd TX4_refuseIf_0 5 rfl) (by decide) ?_ ?_
    · exact ok_return (dd TX4_refuseIf_0 16 rfl) rfl
    · refine ok_aload_n (dd TX4_refuseIf_0 6 rfl) 0 rfl ?_
      refine ok_iload_n (dd TX4_refuseIf_0 7 rfl) 2 rfl ?_
      refine ok_wI fl_RX4_29 (Or.inl rfl) (tyX4_ok 2 (by decide)) (by decide) rfl (dd TX4_refuseIf_0 8 rfl) ?_
      refine ok_aload_n (dd TX4_refuseIf_0 9 rfl) 0 rfl ?_
      refine ok_aload_n (dd TX4_refuseIf_0 10 rfl) 0 rfl ?_
      refine ok_gI fl_RX4_111 rfl (dd TX4_refuseIf_0 11 rfl) (fun v2 => ?_)
      refine ok_wI fl_RX4_32 (Or.inl rfl) (tyX4_ok 3 (by decide)) (by decide) rfl (dd TX4_refuseIf_0 12 rfl) ?_
      refine ok_aload_n (dd TX4_refuseIf_0 13 rfl) 0 rfl ?_
      refine ok_bipush (v := (18 : Int32)) (dd TX4_refuseIf_0 14 rfl) (by decide) ?_
      refine ok_wI fl_RX4_38 (Or.inl rfl) (tyX4_ok 6 (by decide)) (by decide) rfl (dd TX4_refuseIf_0 15 rfl) ?_
      exact ok_return (dd TX4_refuseIf_0 16 rfl) rfl
def F_X4_append_L3 : Nat → Option Nat → Int32 → Int32 → M Unit
  | 0 => fun _ _ _ => fl
  | n + 1 => fun x0 x1 x2 => if x2 < 0 then rt () else bn (gI 4 1 x0) fun v1 => if (600 : Int32) ≤ v1 then rt () else bn (gP 4 0 x0) fun v2 => bn (gI 4 1 x0) fun v3 => bn (stC 115 v2 v3 ((((x1 >>> (x2 &&& 31)) &&& (255 : Int32)).toUInt32 % 65536).toInt32)) fun _ => bn (gI 4 1 x0) fun v4 => bn (wI 4 1 x0 (v4 + (1 : Int32))) fun _ => F_X4_append_L3 n x0 x1 (x2 + (-8 : Int32))
set_option maxRecDepth 100000 in
theorem O_X4_append_L3 (Γ : Gam) (n : Nat) : ∀ (x0 : Option Nat) (x1 : Int32) (x2 : Int32), Ok Γ mX4_append 0 vV 3 [(0, va_rf x0), (1, .int x1), (2, .int x2)] [] (F_X4_append_L3 n x0 x1 x2) := by
  induction n with
  | zero => intro x0 x1 x2; exact ok_fl
  | succ n ih =>
    intro x0 x1 x2
    rw [F_X4_append_L3]
    refine ok_iload_n (dd TX4_append_0 2 rfl) 2 rfl ?_
    refine ok_if_lt (tgt := 50) (dd TX4_append_0 3 rfl) (by decide) ?_ ?_
    · exact ok_return (dd TX4_append_0 27 rfl) rfl
    · refine ok_aload_n (dd TX4_append_0 4 rfl) 0 rfl ?_
      refine ok_gI fl_RX4_19 rfl (dd TX4_append_0 5 rfl) (fun v1 => ?_)
      refine ok_sipush (v := (600 : Int32)) (dd TX4_append_0 6 rfl) (by decide) ?_
      refine ok_icmp_ge (tgt := 50) (dd TX4_append_0 7 rfl) (by decide) ?_ ?_
      · exact ok_return (dd TX4_append_0 27 rfl) rfl
      · refine ok_aload_n (dd TX4_append_0 8 rfl) 0 rfl ?_
        refine ok_gP fl_RX4_11 rfl (dd TX4_append_0 9 rfl) (fun v2 => ?_)
        refine ok_aload_n (dd TX4_append_0 10 rfl) 0 rfl ?_
        refine ok_gI fl_RX4_19 rfl (dd TX4_append_0 11 rfl) (fun v3 => ?_)
        refine ok_iload_n (dd TX4_append_0 12 rfl) 1 rfl ?_
        refine ok_iload_n (dd TX4_append_0 13 rfl) 2 rfl ?_
        refine ok_ishr (dd TX4_append_0 14 rfl) ?_
        refine ok_sipush (v := (255 : Int32)) (dd TX4_append_0 15 rfl) (by decide) ?_
        refine ok_iand (dd TX4_append_0 16 rfl) ?_
        refine ok_i2c (dd TX4_append_0 17 rfl) ?_
        refine ok_stC (kd := 115) (by decide) rfl (dd TX4_append_0 18 rfl) ?_
        refine ok_aload_n (dd TX4_append_0 19 rfl) 0 rfl ?_
        refine ok_dup (dd TX4_append_0 20 rfl) (by first | rfl | exact cat_rf _) ?_
        refine ok_gI fl_RX4_19 rfl (dd TX4_append_0 21 rfl) (fun v4 => ?_)
        refine ok_iconst (v := (1 : Int32)) (dd TX4_append_0 22 rfl) (by decide) ?_
        refine ok_iadd (dd TX4_append_0 23 rfl) ?_
        refine ok_wI fl_RX4_19 (Or.inl rfl) (tyX4_ok 1 (by decide)) (by decide) rfl (dd TX4_append_0 24 rfl) ?_
        refine ok_iinc (lv' := [(2, .int (x2 + (-8 : Int32))), (0, va_rf x0), (1, .int x1)]) (dd TX4_append_0 25 rfl) 2 rfl (congrArg (fun q : Int32 => x2 + q) (show Int32.ofInt (-8) = (-8 : Int32) from by decide)) (by decide) (by first | rfl | (simp only [List.filter, cat_rf]; rfl)) ?_
        refine ok_goto (tgt := 3) (dd TX4_append_0 26 rfl) (by decide) ?_
        refine ok_sub [1, 2, 0] rfl ?_
        exact ih x0 x1 (x2 + (-8 : Int32))
def F_X4_append (this : Nat) (p0 : Int32) : M Unit := F_X4_append_L3 FU (some this) p0 (24 : Int32)
set_option maxRecDepth 100000 in
theorem C_X4_append (Γ : Gam) (this : Nat) (p0 : Int32) : Ct Γ mX4_append 0 vV [va_rf (some this), .int p0] (F_X4_append this p0) := by
  refine ct_in (lv := [(0, va_rf (some this)), (1, .int p0)]) (by decide) (by first | rfl | (simp only [lv_args, cat_rf]; rfl)) (by first | exact Nat.le_of_ble_eq_true rfl | (rw [lg_len]; simp only [List.map_cons, List.map_nil, cat_rf]; exact Nat.le_of_ble_eq_true rfl)) ?_
  unfold F_X4_append
  refine ok_bipush (v := (24 : Int32)) (dd TX4_append_0 0 rfl) (by decide) ?_
  refine ok_istore_n (lv' := [(2, .int (24 : Int32)), (0, va_rf (some this)), (1, .int p0)]) (dd TX4_append_0 1 rfl) (by decide) (by first | rfl | (simp only [List.filter, cat_rf]; rfl)) ?_
  refine ok_sub [1, 2, 0] rfl ?_
  exact O_X4_append_L3 Γ FU (some this) p0 (24 : Int32)
def F_X4_isDigit (p0 : Int32) : M Int32 := if p0 < (48 : Int32) then rz (0 : Int32) else if (57 : Int32) < p0 then rz (0 : Int32) else rz (1 : Int32)
set_option maxRecDepth 100000 in
theorem C_X4_isDigit (Γ : Gam) (p0 : Int32) : Ct Γ mX4_isDigit 0 vI [.int p0] (F_X4_isDigit p0) := by
  refine ct_in (lv := [(0, .int p0)]) (by decide) (by first | rfl | (simp only [lv_args, cat_rf]; rfl)) (by first | exact Nat.le_of_ble_eq_true rfl | (rw [lg_len]; simp only [List.map_cons, List.map_nil, cat_rf]; exact Nat.le_of_ble_eq_true rfl)) ?_
  unfold F_X4_isDigit
  refine ok_iload_n (dd TX4_isDigit_0 0 rfl) 0 rfl ?_
  refine ok_bipush (v := (48 : Int32)) (dd TX4_isDigit_0 1 rfl) (by decide) ?_
  refine ok_icmp_lt (tgt := 16) (dd TX4_isDigit_0 2 rfl) (by decide) ?_ ?_
  · refine ok_iconst (v := (0 : Int32)) (dd TX4_isDigit_0 8 rfl) (by decide) ?_
    exact ok_zreturn (dd TX4_isDigit_0 9 rfl) rfl
  · refine ok_iload_n (dd TX4_isDigit_0 3 rfl) 0 rfl ?_
    refine ok_bipush (v := (57 : Int32)) (dd TX4_isDigit_0 4 rfl) (by decide) ?_
    refine ok_icmp_gt (tgt := 16) (dd TX4_isDigit_0 5 rfl) (by decide) ?_ ?_
    · refine ok_iconst (v := (0 : Int32)) (dd TX4_isDigit_0 8 rfl) (by decide) ?_
      exact ok_zreturn (dd TX4_isDigit_0 9 rfl) rfl
    · refine ok_iconst (v := (1 : Int32)) (dd TX4_isDigit_0 6 rfl) (by decide) ?_
      refine ok_goto (tgt := 17) (dd TX4_isDigit_0 7 rfl) (by decide) ?_
      exact ok_zreturn (dd TX4_isDigit_0 9 rfl) rfl
def F_X7_combine (p0 : Int32) (p1 : Int32) (p2 : Int32) : M Int32 := swF p0 [((14 : Int32), 133, rt (if p2 < p1 then p2 else p1)), ((42 : Int32), 84, rt (p1 * p2)), ((43 : Int32), 76, rt (p1 + p2)), ((45 : Int32), 80, rt (p1 - p2)), ((47 : Int32), 88, if ¬ p2 = 0 then bn (dvI p1 p2) fun _ => rt (p1 / p2) else rt (0 : Int32)), ((60 : Int32), 100, if p2 ≤ p1 then rt (0 : Int32) else rt (1 : Int32)), ((61 : Int32), 122, if ¬ p1 = p2 then rt (0 : Int32) else rt (1 : Int32)), ((62 : Int32), 111, if p1 ≤ p2 then rt (0 : Int32) else rt (1 : Int32))] (rt (if p1 < p2 then p2 else p1))
set_option maxRecDepth 100000 in
theorem C_X7_combine (Γ : Gam) (p0 : Int32) (p1 : Int32) (p2 : Int32) : Ct Γ mX7_combine 1 vI [.int p0, .int p1, .int p2] (F_X7_combine p0 p1 p2) := by
  refine ct_in (lv := [(0, .int p0), (1, .int p1), (2, .int p2)]) (by decide) (by first | rfl | (simp only [lv_args, cat_rf]; rfl)) (by first | exact Nat.le_of_ble_eq_true rfl | (rw [lg_len]; simp only [List.map_cons, List.map_nil, cat_rf]; exact Nat.le_of_ble_eq_true rfl)) ?_
  unfold F_X7_combine
  refine ok_iload_n (dd TX7_combine_0 0 rfl) 0 rfl ?_
  refine ok_lsw (dt := 139) (dd TX7_combine_0 1 rfl) rfl (List.forall_mem_cons.mpr ⟨?_, List.forall_mem_cons.mpr ⟨?_, List.forall_mem_cons.mpr ⟨?_, List.forall_mem_cons.mpr ⟨?_, List.forall_mem_cons.mpr ⟨?_, List.forall_mem_cons.mpr ⟨?_, List.forall_mem_cons.mpr ⟨?_, List.forall_mem_cons.mpr ⟨?_, fun _ h => absurd h List.not_mem_nil⟩⟩⟩⟩⟩⟩⟩⟩) ?_
  · show Ok _ _ _ _ 133 _ _ _
    refine ok_iload_n (dd TX7_combine_1 3 rfl) 1 rfl ?_
    refine ok_iload_n (dd TX7_combine_1 4 rfl) 2 rfl ?_
    refine ok_mmin ml_RX7_72 ms_min w_mi mc_min (by decide) (by decide) (dd TX7_combine_1 5 rfl) ?_
    exact ok_ireturn (dd TX7_combine_1 6 rfl) rfl
  · show Ok _ _ _ _ 84 _ _ _
    refine ok_iload_n (dd TX7_combine_0 10 rfl) 1 rfl ?_
    refine ok_iload_n (dd TX7_combine_0 11 rfl) 2 rfl ?_
    refine ok_imul (dd TX7_combine_0 12 rfl) ?_
    exact ok_ireturn (dd TX7_combine_0 13 rfl) rfl
  · show Ok _ _ _ _ 76 _ _ _
    refine ok_iload_n (dd TX7_combine_0 2 rfl) 1 rfl ?_
    refine ok_iload_n (dd TX7_combine_0 3 rfl) 2 rfl ?_
    refine ok_iadd (dd TX7_combine_0 4 rfl) ?_
    exact ok_ireturn (dd TX7_combine_0 5 rfl) rfl
  · show Ok _ _ _ _ 80 _ _ _
    refine ok_iload_n (dd TX7_combine_0 6 rfl) 1 rfl ?_
    refine ok_iload_n (dd TX7_combine_0 7 rfl) 2 rfl ?_
    refine ok_isub (dd TX7_combine_0 8 rfl) ?_
    exact ok_ireturn (dd TX7_combine_0 9 rfl) rfl
  · show Ok _ _ _ _ 88 _ _ _
    refine ok_iload_n (dd TX7_combine_0 14 rfl) 2 rfl ?_
    refine ok_if_ne (tgt := 96) (dd TX7_combine_0 15 rfl) (by decide) ?_ ?_
    · refine ok_iload_n (dd TX7_combine_0 18 rfl) 1 rfl ?_
      refine ok_iload_n (dd TX7_combine_0 19 rfl) 2 rfl ?_
      refine ok_idiv (dd TX7_combine_0 20 rfl) ?_
      exact ok_ireturn (dd TX7_combine_0 21 rfl) rfl
    · refine ok_iconst (v := (0 : Int32)) (dd TX7_combine_0 16 rfl) (by decide) ?_
      refine ok_goto (tgt := 99) (dd TX7_combine_0 17 rfl) (by decide) ?_
      exact ok_ireturn (dd TX7_combine_0 21 rfl) rfl
  · show Ok _ _ _ _ 100 _ _ _
    refine ok_iload_n (dd TX7_combine_0 22 rfl) 1 rfl ?_
    refine ok_iload_n (dd TX7_combine_0 23 rfl) 2 rfl ?_
    refine ok_icmp_ge (tgt := 109) (dd TX7_combine_0 24 rfl) (by decide) ?_ ?_
    · refine ok_iconst (v := (0 : Int32)) (dd TX7_combine_0 27 rfl) (by decide) ?_
      exact ok_ireturn (dd TX7_combine_0 28 rfl) rfl
    · refine ok_iconst (v := (1 : Int32)) (dd TX7_combine_0 25 rfl) (by decide) ?_
      refine ok_goto (tgt := 110) (dd TX7_combine_0 26 rfl) (by decide) ?_
      exact ok_ireturn (dd TX7_combine_0 28 rfl) rfl
  · show Ok _ _ _ _ 122 _ _ _
    refine ok_iload_n (dd TX7_combine_0 36 rfl) 1 rfl ?_
    refine ok_iload_n (dd TX7_combine_0 37 rfl) 2 rfl ?_
    refine ok_icmp_ne (tgt := 131) (dd TX7_combine_0 38 rfl) (by decide) ?_ ?_
    · refine ok_iconst (v := (0 : Int32)) (dd TX7_combine_1 1 rfl) (by decide) ?_
      exact ok_ireturn (dd TX7_combine_1 2 rfl) rfl
    · refine ok_iconst (v := (1 : Int32)) (dd TX7_combine_0 39 rfl) (by decide) ?_
      refine ok_goto (tgt := 132) (dd TX7_combine_1 0 rfl) (by decide) ?_
      exact ok_ireturn (dd TX7_combine_1 2 rfl) rfl
  · show Ok _ _ _ _ 111 _ _ _
    refine ok_iload_n (dd TX7_combine_0 29 rfl) 1 rfl ?_
    refine ok_iload_n (dd TX7_combine_0 30 rfl) 2 rfl ?_
    refine ok_icmp_le (tgt := 120) (dd TX7_combine_0 31 rfl) (by decide) ?_ ?_
    · refine ok_iconst (v := (0 : Int32)) (dd TX7_combine_0 34 rfl) (by decide) ?_
      exact ok_ireturn (dd TX7_combine_0 35 rfl) rfl
    · refine ok_iconst (v := (1 : Int32)) (dd TX7_combine_0 32 rfl) (by decide) ?_
      refine ok_goto (tgt := 121) (dd TX7_combine_0 33 rfl) (by decide) ?_
      exact ok_ireturn (dd TX7_combine_0 35 rfl) rfl
  · show Ok _ _ _ _ 139 _ _ _
    refine ok_iload_n (dd TX7_combine_1 7 rfl) 1 rfl ?_
    refine ok_iload_n (dd TX7_combine_1 8 rfl) 2 rfl ?_
    refine ok_mmax ml_RX7_78 ms_max w_mi mc_max (by decide) (by decide) (dd TX7_combine_1 9 rfl) ?_
    exact ok_ireturn (dd TX7_combine_1 10 rfl) rfl
def F_X12_in (p0 : Int64) (p1 : Int64) (p2 : Int64) : M Int32 := if (lg_cmp p0 p1) < 0 then rz (0 : Int32) else if 0 < (lg_cmp p0 p2) then rz (0 : Int32) else rz (1 : Int32)
set_option maxRecDepth 100000 in
theorem C_X12_in (Γ : Gam) (p0 : Int64) (p1 : Int64) (p2 : Int64) : Ct Γ mX12_in 0 vI [.long p0, .long p1, .long p2] (F_X12_in p0 p1 p2) := by
  refine ct_in (lv := [(0, .long p0), (2, .long p1), (4, .long p2)]) (by decide) (by first | rfl | (simp only [lv_args, cat_rf]; rfl)) (by first | exact Nat.le_of_ble_eq_true rfl | (rw [lg_len]; simp only [List.map_cons, List.map_nil, cat_rf]; exact Nat.le_of_ble_eq_true rfl)) ?_
  unfold F_X12_in
  refine ok_lload_n (dd TX12_in_0 0 rfl) 0 rfl ?_
  refine ok_lload_n (dd TX12_in_0 1 rfl) 1 rfl ?_
  refine ok_lcmp (dd TX12_in_0 2 rfl) ?_
  refine ok_if_lt (tgt := 17) (dd TX12_in_0 3 rfl) (by decide) ?_ ?_
  · refine ok_iconst (v := (0 : Int32)) (dd TX12_in_0 10 rfl) (by decide) ?_
    exact ok_zreturn (dd TX12_in_0 11 rfl) rfl
  · refine ok_lload_n (dd TX12_in_0 4 rfl) 0 rfl ?_
    refine ok_lload (dd TX12_in_0 5 rfl) 2 rfl ?_
    refine ok_lcmp (dd TX12_in_0 6 rfl) ?_
    refine ok_if_gt (tgt := 17) (dd TX12_in_0 7 rfl) (by decide) ?_ ?_
    · refine ok_iconst (v := (0 : Int32)) (dd TX12_in_0 10 rfl) (by decide) ?_
      exact ok_zreturn (dd TX12_in_0 11 rfl) rfl
    · refine ok_iconst (v := (1 : Int32)) (dd TX12_in_0 8 rfl) (by decide) ?_
      refine ok_goto (tgt := 18) (dd TX12_in_0 9 rfl) (by decide) ?_
      exact ok_zreturn (dd TX12_in_0 11 rfl) rfl
def F_X12_isMember (this : Nat) (p0 : Int32) : M Int32 := bn (gI 12 10 (some this)) fun v1 => bn (F_X12_in p0.toInt64 (0 : Int64) ((v1 - (1 : Int32)).toInt64)) fun v2 => rz v2
set_option maxRecDepth 100000 in
theorem C_X12_isMember (Γ : Gam) (this : Nat) (p0 : Int32) : Ct Γ mX12_isMember 1 vI [va_rf (some this), .int p0] (F_X12_isMember this p0) := by
  refine ct_in (lv := [(0, va_rf (some this)), (1, .int p0)]) (by decide) (by first | rfl | (simp only [lv_args, cat_rf]; rfl)) (by first | exact Nat.le_of_ble_eq_true rfl | (rw [lg_len]; simp only [List.map_cons, List.map_nil, cat_rf]; exact Nat.le_of_ble_eq_true rfl)) ?_
  unfold F_X12_isMember
  refine ok_iload_n (dd TX12_isMember_0 0 rfl) 1 rfl ?_
  refine ok_i2l (dd TX12_isMember_0 1 rfl) ?_
  refine ok_lconst (v := (0 : Int64)) (dd TX12_isMember_0 2 rfl) (by decide) ?_
  refine ok_aload_n (dd TX12_isMember_0 3 rfl) 0 rfl ?_
  refine ok_gI fl_RX12_94 rfl (dd TX12_isMember_0 4 rfl) (fun v1 => ?_)
  refine ok_iconst (v := (1 : Int32)) (dd TX12_isMember_0 5 rfl) (by decide) ?_
  refine ok_isub (dd TX12_isMember_0 6 rfl) ?_
  refine ok_i2l (dd TX12_isMember_0 7 rfl) ?_
  refine ok_callSI [.long p0.toInt64, .long (0 : Int64), .long ((v1 - (1 : Int32)).toInt64)] [] (C_X12_in Γ p0.toInt64 (0 : Int64) ((v1 - (1 : Int32)).toInt64)) cy_X12_in ml_RX12_97 sm_X12_in (by decide) (by decide) rfl (dd TX12_isMember_0 8 rfl) (fun v2 => ?_)
  exact ok_zreturn (dd TX12_isMember_0 9 rfl) rfl
def F_X12_lay_L3 : Nat → Option Nat → Int32 → Int32 → M Unit
  | 0 => fun _ _ _ => fl
  | n + 1 => fun x0 x1 x2 => if x2 < 0 then rt () else bn (gP 12 0 x0) fun v1 => bn (gI 12 1 x0) fun v2 => bn (stI 160 v1 v2 ((x1 >>> (x2 &&& 31)) &&& (255 : Int32))) fun _ => bn (gI 12 1 x0) fun v3 => bn (wI 12 1 x0 (v3 + (1 : Int32))) fun _ => F_X12_lay_L3 n x0 x1 (x2 + (-8 : Int32))
set_option maxRecDepth 100000 in
theorem O_X12_lay_L3 (Γ : Gam) (n : Nat) : ∀ (x0 : Option Nat) (x1 : Int32) (x2 : Int32), Ok Γ mX12_lay 0 vV 3 [(0, va_rf x0), (1, .int x1), (2, .int x2)] [] (F_X12_lay_L3 n x0 x1 x2) := by
  induction n with
  | zero => intro x0 x1 x2; exact ok_fl
  | succ n ih =>
    intro x0 x1 x2
    rw [F_X12_lay_L3]
    refine ok_iload_n (dd TX12_lay_0 2 rfl) 2 rfl ?_
    refine ok_if_lt (tgt := 39) (dd TX12_lay_0 3 rfl) (by decide) ?_ ?_
    · exact ok_return (dd TX12_lay_0 22 rfl) rfl
    · refine ok_aload_n (dd TX12_lay_0 4 rfl) 0 rfl ?_
      refine ok_gP fl_RX12_9 rfl (dd TX12_lay_0 5 rfl) (fun v1 => ?_)
      refine ok_aload_n (dd TX12_lay_0 6 rfl) 0 rfl ?_
      refine ok_gI fl_RX12_103 rfl (dd TX12_lay_0 7 rfl) (fun v2 => ?_)
      refine ok_iload_n (dd TX12_lay_0 8 rfl) 1 rfl ?_
      refine ok_iload_n (dd TX12_lay_0 9 rfl) 2 rfl ?_
      refine ok_ishr (dd TX12_lay_0 10 rfl) ?_
      refine ok_sipush (v := (255 : Int32)) (dd TX12_lay_0 11 rfl) (by decide) ?_
      refine ok_iand (dd TX12_lay_0 12 rfl) ?_
      refine ok_stI (kd := 160) (by decide) rfl (dd TX12_lay_0 13 rfl) ?_
      refine ok_aload_n (dd TX12_lay_0 14 rfl) 0 rfl ?_
      refine ok_dup (dd TX12_lay_0 15 rfl) (by first | rfl | exact cat_rf _) ?_
      refine ok_gI fl_RX12_103 rfl (dd TX12_lay_0 16 rfl) (fun v3 => ?_)
      refine ok_iconst (v := (1 : Int32)) (dd TX12_lay_0 17 rfl) (by decide) ?_
      refine ok_iadd (dd TX12_lay_0 18 rfl) ?_
      refine ok_wI fl_RX12_103 (Or.inl rfl) (tyX12_ok 1 (by decide)) (by decide) rfl (dd TX12_lay_0 19 rfl) ?_
      refine ok_iinc (lv' := [(2, .int (x2 + (-8 : Int32))), (0, va_rf x0), (1, .int x1)]) (dd TX12_lay_0 20 rfl) 2 rfl (congrArg (fun q : Int32 => x2 + q) (show Int32.ofInt (-8) = (-8 : Int32) from by decide)) (by decide) (by first | rfl | (simp only [List.filter, cat_rf]; rfl)) ?_
      refine ok_goto (tgt := 3) (dd TX12_lay_0 21 rfl) (by decide) ?_
      refine ok_sub [1, 2, 0] rfl ?_
      exact ih x0 x1 (x2 + (-8 : Int32))
def F_X12_lay (this : Nat) (p0 : Int32) : M Unit := F_X12_lay_L3 FU (some this) p0 (24 : Int32)
set_option maxRecDepth 100000 in
theorem C_X12_lay (Γ : Gam) (this : Nat) (p0 : Int32) : Ct Γ mX12_lay 0 vV [va_rf (some this), .int p0] (F_X12_lay this p0) := by
  refine ct_in (lv := [(0, va_rf (some this)), (1, .int p0)]) (by decide) (by first | rfl | (simp only [lv_args, cat_rf]; rfl)) (by first | exact Nat.le_of_ble_eq_true rfl | (rw [lg_len]; simp only [List.map_cons, List.map_nil, cat_rf]; exact Nat.le_of_ble_eq_true rfl)) ?_
  unfold F_X12_lay
  refine ok_bipush (v := (24 : Int32)) (dd TX12_lay_0 0 rfl) (by decide) ?_
  refine ok_istore_n (lv' := [(2, .int (24 : Int32)), (0, va_rf (some this)), (1, .int p0)]) (dd TX12_lay_0 1 rfl) (by decide) (by first | rfl | (simp only [List.filter, cat_rf]; rfl)) ?_
  refine ok_sub [1, 2, 0] rfl ?_
  exact O_X12_lay_L3 Γ FU (some this) p0 (24 : Int32)
def F_X12_feed (this : Nat) (p0 : Int32) (p1 : Int32) (p2 : Int32) (p3 : Int32) (p4 : Int32) : M Int32 := bn (wI 12 35 (some this) (0 : Int32)) fun _ => bn (gI 12 1 (some this)) fun v1 => if (v1 + (20 : Int32)) ≤ (600 : Int32) then bn (pRc 12 (some this)) fun b2 => bn (F_X12_lay b2 p0) fun _ => bn (pRc 12 (some this)) fun b3 => bn (F_X12_lay b3 p1) fun _ => bn (pRc 12 (some this)) fun b4 => bn (F_X12_lay b4 p2) fun _ => bn (pRc 12 (some this)) fun b5 => bn (F_X12_lay b5 p3) fun _ => bn (pRc 12 (some this)) fun b6 => bn (F_X12_lay b6 p4) fun _ => bn (gI 12 1 (some this)) fun v7 => rt v7 else rt (-1 : Int32)
set_option maxRecDepth 100000 in
theorem C_X12_feed (Γ : Gam) (this : Nat) (p0 : Int32) (p1 : Int32) (p2 : Int32) (p3 : Int32) (p4 : Int32) : Ct Γ mX12_feed 1 vI [va_rf (some this), .int p0, .int p1, .int p2, .int p3, .int p4] (F_X12_feed this p0 p1 p2 p3 p4) := by
  refine ct_in (lv := [(0, va_rf (some this)), (1, .int p0), (2, .int p1), (3, .int p2), (4, .int p3), (5, .int p4)]) (by decide) (by first | rfl | (simp only [lv_args, cat_rf]; rfl)) (by first | exact Nat.le_of_ble_eq_true rfl | (rw [lg_len]; simp only [List.map_cons, List.map_nil, cat_rf]; exact Nat.le_of_ble_eq_true rfl)) ?_
  unfold F_X12_feed
  refine ok_aload_n (dd TX12_feed_0 0 rfl) 0 rfl ?_
  refine ok_iconst (v := (0 : Int32)) (dd TX12_feed_0 1 rfl) (by decide) ?_
  refine ok_wI fl_RX12_90 (Or.inl rfl) (tyX12_ok 35 (by decide)) (by decide) rfl (dd TX12_feed_0 2 rfl) ?_
  refine ok_aload_n (dd TX12_feed_0 3 rfl) 0 rfl ?_
  refine ok_gI fl_RX12_103 rfl (dd TX12_feed_0 4 rfl) (fun v1 => ?_)
  refine ok_bipush (v := (20 : Int32)) (dd TX12_feed_0 5 rfl) (by decide) ?_
  refine ok_iadd (dd TX12_feed_0 6 rfl) ?_
  refine ok_sipush (v := (600 : Int32)) (dd TX12_feed_0 7 rfl) (by decide) ?_
  refine ok_icmp_le (tgt := 20) (dd TX12_feed_0 8 rfl) (by decide) ?_ ?_
  · refine ok_aload_n (dd TX12_feed_0 11 rfl) 0 rfl ?_
    refine ok_iload_n (dd TX12_feed_0 12 rfl) 1 rfl ?_
    refine ok_callVV (cn := 12) [.int p0] [] (fun b2 => C_X12_lay Γ b2 p0) rfl cy_X12_lay ml_RX12_106 im_X12_lay se_X12_lay (by decide) (by decide) rfl (dd TX12_feed_0 13 rfl) ?_
    refine ok_aload_n (dd TX12_feed_0 14 rfl) 0 rfl ?_
    refine ok_iload_n (dd TX12_feed_0 15 rfl) 2 rfl ?_
    refine ok_callVV (cn := 12) [.int p1] [] (fun b3 => C_X12_lay Γ b3 p1) rfl cy_X12_lay ml_RX12_106 im_X12_lay se_X12_lay (by decide) (by decide) rfl (dd TX12_feed_0 16 rfl) ?_
    refine ok_aload_n (dd TX12_feed_0 17 rfl) 0 rfl ?_
    refine ok_iload_n (dd TX12_feed_0 18 rfl) 3 rfl ?_
    refine ok_callVV (cn := 12) [.int p2] [] (fun b4 => C_X12_lay Γ b4 p2) rfl cy_X12_lay ml_RX12_106 im_X12_lay se_X12_lay (by decide) (by decide) rfl (dd TX12_feed_0 19 rfl) ?_
    refine ok_aload_n (dd TX12_feed_0 20 rfl) 0 rfl ?_
    refine ok_iload (dd TX12_feed_0 21 rfl) 4 rfl ?_
    refine ok_callVV (cn := 12) [.int p3] [] (fun b5 => C_X12_lay Γ b5 p3) rfl cy_X12_lay ml_RX12_106 im_X12_lay se_X12_lay (by decide) (by decide) rfl (dd TX12_feed_0 22 rfl) ?_
    refine ok_aload_n (dd TX12_feed_0 23 rfl) 0 rfl ?_
    refine ok_iload (dd TX12_feed_0 24 rfl) 5 rfl ?_
    refine ok_callVV (cn := 12) [.int p4] [] (fun b6 => C_X12_lay Γ b6 p4) rfl cy_X12_lay ml_RX12_106 im_X12_lay se_X12_lay (by decide) (by decide) rfl (dd TX12_feed_0 25 rfl) ?_
    refine ok_aload_n (dd TX12_feed_0 26 rfl) 0 rfl ?_
    refine ok_gI fl_RX12_103 rfl (dd TX12_feed_0 27 rfl) (fun v7 => ?_)
    exact ok_ireturn (dd TX12_feed_0 28 rfl) rfl
  · refine ok_iconst (v := (-1 : Int32)) (dd TX12_feed_0 9 rfl) (by decide) ?_
    exact ok_ireturn (dd TX12_feed_0 10 rfl) rfl
def F_X12_settleOf_L79 (k16 : Option Nat → Int32 → Int32 → Int32 → Int32 → Int32 → M Int32) (x0 : Option Nat) (x1 : Int32) (x2 : Int32) (x3 : Int32) (x4 : Int32) (x5 : Int32) : M Int32 := k16 x0 x1 x2 x3 x4 (x5 + (1 : Int32))
set_option maxRecDepth 100000 in
theorem O_X12_settleOf_L79 (Γ : Gam) (k16 : Option Nat → Int32 → Int32 → Int32 → Int32 → Int32 → M Int32) (hk16 : ∀ (z0 : Option Nat) (z1 : Int32) (z2 : Int32) (z3 : Int32) (z4 : Int32) (z5 : Int32), Ok Γ mX12_settleOf 0 vI 16 [(0, va_rf z0), (1, .int z1), (2, .int z2), (3, .int z3), (4, .int z4), (5, .int z5)] [] (k16 z0 z1 z2 z3 z4 z5)) (x0 : Option Nat) (x1 : Int32) (x2 : Int32) (x3 : Int32) (x4 : Int32) (x5 : Int32) : Ok Γ mX12_settleOf 0 vI 79 [(0, va_rf x0), (1, .int x1), (2, .int x2), (3, .int x3), (4, .int x4), (5, .int x5)] [] (F_X12_settleOf_L79 k16 x0 x1 x2 x3 x4 x5) := by
  unfold F_X12_settleOf_L79
  refine ok_iinc (lv' := [(5, .int (x5 + (1 : Int32))), (0, va_rf x0), (1, .int x1), (2, .int x2), (3, .int x3), (4, .int x4)]) (dd TX12_settleOf_1 8 rfl) 5 rfl (congrArg (fun q : Int32 => x5 + q) (show Int32.ofInt (1) = (1 : Int32) from by decide)) (by decide) (by first | rfl | (simp only [List.filter, cat_rf]; rfl)) ?_
  refine ok_goto (tgt := 16) (dd TX12_settleOf_1 9 rfl) (by decide) ?_
  refine ok_sub [1, 2, 3, 4, 5, 0] rfl ?_
  exact hk16 x0 x1 x2 x3 x4 (x5 + (1 : Int32))
def F_X12_settleOf_L16 : Nat → Option Nat → Int32 → Int32 → Int32 → Int32 → Int32 → M Int32
  | 0 => fun _ _ _ _ _ _ => fl
  | n + 1 => fun x0 x1 x2 x3 x4 x5 => bn (gI 12 30 x0) fun v3 => if v3 ≤ x5 then rt x4 else bn (gP 12 29 x0) fun v4 => bn (lI 328 v4 ((4 : Int32) * x5)) fun v5 => if ¬ v5 = x1 then F_X12_settleOf_L79 (F_X12_settleOf_L16 n) x0 x1 x2 x3 x4 x5 else bn (gP 12 29 x0) fun v6 => bn (lI 328 v6 (((4 : Int32) * x5) + (1 : Int32))) fun v7 => if ¬ v7 = x2 then F_X12_settleOf_L79 (F_X12_settleOf_L16 n) x0 x1 x2 x3 x4 x5 else bn (gP 12 29 x0) fun v8 => bn (lI 328 v8 (((4 : Int32) * x5) + (3 : Int32))) fun v9 => if x3 < v9 then F_X12_settleOf_L79 (F_X12_settleOf_L16 n) x0 x1 x2 x3 x4 x5 else bn (gP 12 29 x0) fun v10 => bn (lI 328 v10 (((4 : Int32) * x5) + (2 : Int32))) fun v11 => F_X12_settleOf_L79 (F_X12_settleOf_L16 n) x0 x1 x2 x3 v11 x5
set_option maxRecDepth 100000 in
theorem O_X12_settleOf_L16 (Γ : Gam) (n : Nat) : ∀ (x0 : Option Nat) (x1 : Int32) (x2 : Int32) (x3 : Int32) (x4 : Int32) (x5 : Int32), Ok Γ mX12_settleOf 0 vI 16 [(0, va_rf x0), (1, .int x1), (2, .int x2), (3, .int x3), (4, .int x4), (5, .int x5)] [] (F_X12_settleOf_L16 n x0 x1 x2 x3 x4 x5) := by
  induction n with
  | zero => intro x0 x1 x2 x3 x4 x5; exact ok_fl
  | succ n ih =>
    intro x0 x1 x2 x3 x4 x5
    rw [F_X12_settleOf_L16]
    refine ok_iload (dd TX12_settleOf_0 11 rfl) 5 rfl ?_
    refine ok_aload_n (dd TX12_settleOf_0 12 rfl) 0 rfl ?_
    refine ok_gI fl_RX12_235 rfl (dd TX12_settleOf_0 13 rfl) (fun v3 => ?_)
    refine ok_icmp_ge (tgt := 85) (dd TX12_settleOf_0 14 rfl) (by decide) ?_ ?_
    · refine ok_iload (dd TX12_settleOf_1 10 rfl) 4 rfl ?_
      exact ok_ireturn (dd TX12_settleOf_1 11 rfl) rfl
    · refine ok_iconst (v := (4 : Int32)) (dd TX12_settleOf_0 15 rfl) (by decide) ?_
      refine ok_iload (dd TX12_settleOf_0 16 rfl) 5 rfl ?_
      refine ok_imul (dd TX12_settleOf_0 17 rfl) ?_
      refine ok_istore (lv' := [(6, .int ((4 : Int32) * x5)), (0, va_rf x0), (1, .int x1), (2, .int x2), (3, .int x3), (4, .int x4), (5, .int x5)]) (dd TX12_settleOf_0 18 rfl) (by decide) (by first | rfl | (simp only [List.filter, cat_rf]; rfl)) ?_
      refine ok_aload_n (dd TX12_settleOf_0 19 rfl) 1 rfl ?_
      refine ok_gP fl_RX12_75 rfl (dd TX12_settleOf_0 20 rfl) (fun v4 => ?_)
      refine ok_iload (dd TX12_settleOf_0 21 rfl) 0 rfl ?_
      refine ok_lI (kd := 328) (by decide) rfl (dd TX12_settleOf_0 22 rfl) (fun v5 => ?_)
      refine ok_iload_n (dd TX12_settleOf_0 23 rfl) 2 rfl ?_
      refine ok_icmp_ne (tgt := 79) (dd TX12_settleOf_0 24 rfl) (by decide) ?_ ?_
      · refine ok_sub [1, 2, 3, 4, 5, 6] rfl ?_
        exact O_X12_settleOf_L79 Γ (F_X12_settleOf_L16 n) ih x0 x1 x2 x3 x4 x5
      · refine ok_aload_n (dd TX12_settleOf_0 25 rfl) 1 rfl ?_
        refine ok_gP fl_RX12_75 rfl (dd TX12_settleOf_0 26 rfl) (fun v6 => ?_)
        refine ok_iload (dd TX12_settleOf_0 27 rfl) 0 rfl ?_
        refine ok_iconst (v := (1 : Int32)) (dd TX12_settleOf_0 28 rfl) (by decide) ?_
        refine ok_iadd (dd TX12_settleOf_0 29 rfl) ?_
        refine ok_lI (kd := 328) (by decide) rfl (dd TX12_settleOf_0 30 rfl) (fun v7 => ?_)
        refine ok_iload_n (dd TX12_settleOf_0 31 rfl) 3 rfl ?_
        refine ok_icmp_ne (tgt := 79) (dd TX12_settleOf_0 32 rfl) (by decide) ?_ ?_
        · refine ok_sub [1, 2, 3, 4, 5, 6] rfl ?_
          exact O_X12_settleOf_L79 Γ (F_X12_settleOf_L16 n) ih x0 x1 x2 x3 x4 x5
        · refine ok_aload_n (dd TX12_settleOf_0 33 rfl) 1 rfl ?_
          refine ok_gP fl_RX12_75 rfl (dd TX12_settleOf_0 34 rfl) (fun v8 => ?_)
          refine ok_iload (dd TX12_settleOf_0 35 rfl) 0 rfl ?_
          refine ok_iconst (v := (3 : Int32)) (dd TX12_settleOf_0 36 rfl) (by decide) ?_
          refine ok_iadd (dd TX12_settleOf_0 37 rfl) ?_
          refine ok_lI (kd := 328) (by decide) rfl (dd TX12_settleOf_0 38 rfl) (fun v9 => ?_)
          refine ok_iload_n (dd TX12_settleOf_0 39 rfl) 4 rfl ?_
          refine ok_icmp_gt (tgt := 79) (dd TX12_settleOf_1 0 rfl) (by decide) ?_ ?_
          · refine ok_sub [1, 2, 3, 4, 5, 6] rfl ?_
            exact O_X12_settleOf_L79 Γ (F_X12_settleOf_L16 n) ih x0 x1 x2 x3 x4 x5
          · refine ok_aload_n (dd TX12_settleOf_1 1 rfl) 1 rfl ?_
            refine ok_gP fl_RX12_75 rfl (dd TX12_settleOf_1 2 rfl) (fun v10 => ?_)
            refine ok_iload (dd TX12_settleOf_1 3 rfl) 0 rfl ?_
            refine ok_iconst (v := (2 : Int32)) (dd TX12_settleOf_1 4 rfl) (by decide) ?_
            refine ok_iadd (dd TX12_settleOf_1 5 rfl) ?_
            refine ok_lI (kd := 328) (by decide) rfl (dd TX12_settleOf_1 6 rfl) (fun v11 => ?_)
            refine ok_istore (lv' := [(4, .int v11), (6, .int ((4 : Int32) * x5)), (0, va_rf x0), (1, .int x1), (2, .int x2), (3, .int x3), (5, .int x5)]) (dd TX12_settleOf_1 7 rfl) (by decide) (by first | rfl | (simp only [List.filter, cat_rf]; rfl)) ?_
            refine ok_sub [2, 3, 4, 5, 0, 6] rfl ?_
            exact O_X12_settleOf_L79 Γ (F_X12_settleOf_L16 n) ih x0 x1 x2 x3 v11 x5
def F_X12_settleOf (this : Nat) (p0 : Int32) (p1 : Int32) (p2 : Int32) : M Int32 := bn (gP 12 25 (some this)) fun v1 => bn (lI 296 v1 (((6 : Int32) * p1) + p0)) fun v2 => F_X12_settleOf_L16 FU (some this) p0 p1 p2 v2 (0 : Int32)
set_option maxRecDepth 100000 in
theorem C_X12_settleOf (Γ : Gam) (this : Nat) (p0 : Int32) (p1 : Int32) (p2 : Int32) : Ct Γ mX12_settleOf 0 vI [va_rf (some this), .int p0, .int p1, .int p2] (F_X12_settleOf this p0 p1 p2) := by
  refine ct_in (lv := [(0, va_rf (some this)), (1, .int p0), (2, .int p1), (3, .int p2)]) (by decide) (by first | rfl | (simp only [lv_args, cat_rf]; rfl)) (by first | exact Nat.le_of_ble_eq_true rfl | (rw [lg_len]; simp only [List.map_cons, List.map_nil, cat_rf]; exact Nat.le_of_ble_eq_true rfl)) ?_
  unfold F_X12_settleOf
  refine ok_aload_n (dd TX12_settleOf_0 0 rfl) 0 rfl ?_
  refine ok_gP fl_RX12_63 rfl (dd TX12_settleOf_0 1 rfl) (fun v1 => ?_)
  refine ok_bipush (v := (6 : Int32)) (dd TX12_settleOf_0 2 rfl) (by decide) ?_
  refine ok_iload_n (dd TX12_settleOf_0 3 rfl) 2 rfl ?_
  refine ok_imul (dd TX12_settleOf_0 4 rfl) ?_
  refine ok_iload_n (dd TX12_settleOf_0 5 rfl) 1 rfl ?_
  refine ok_iadd (dd TX12_settleOf_0 6 rfl) ?_
  refine ok_lI (kd := 296) (by decide) rfl (dd TX12_settleOf_0 7 rfl) (fun v2 => ?_)
  refine ok_istore (lv' := [(4, .int v2), (0, va_rf (some this)), (1, .int p0), (2, .int p1), (3, .int p2)]) (dd TX12_settleOf_0 8 rfl) (by decide) (by first | rfl | (simp only [List.filter, cat_rf]; rfl)) ?_
  refine ok_iconst (v := (0 : Int32)) (dd TX12_settleOf_0 9 rfl) (by decide) ?_
  refine ok_istore (lv' := [(5, .int (0 : Int32)), (4, .int v2), (0, va_rf (some this)), (1, .int p0), (2, .int p1), (3, .int p2)]) (dd TX12_settleOf_0 10 rfl) (by decide) (by first | rfl | (simp only [List.filter, cat_rf]; rfl)) ?_
  refine ok_sub [2, 3, 4, 5, 1, 0] rfl ?_
  exact O_X12_settleOf_L16 Γ FU (some this) p0 p1 p2 v2 (0 : Int32)
def F_X12_latest (this : Nat) (p0 : Int32) : M Int32 := bn (gI 12 24 (some this)) fun v1 => if ¬ v1 = 0 then bn (gI 12 24 (some this)) fun v2 => bn (gI 12 24 (some this)) fun v3 => bn (pRc 12 (some this)) fun b4 => bn (F_X12_settleOf b4 p0 (v2 - (1 : Int32)) v3) fun v5 => rt v5 else rt (-1 : Int32)
set_option maxRecDepth 100000 in
theorem C_X12_latest (Γ : Gam) (this : Nat) (p0 : Int32) : Ct Γ mX12_latest 1 vI [va_rf (some this), .int p0] (F_X12_latest this p0) := by
  refine ct_in (lv := [(0, va_rf (some this)), (1, .int p0)]) (by decide) (by first | rfl | (simp only [lv_args, cat_rf]; rfl)) (by first | exact Nat.le_of_ble_eq_true rfl | (rw [lg_len]; simp only [List.map_cons, List.map_nil, cat_rf]; exact Nat.le_of_ble_eq_true rfl)) ?_
  unfold F_X12_latest
  refine ok_aload_n (dd TX12_latest_0 0 rfl) 0 rfl ?_
  refine ok_gI fl_RX12_238 rfl (dd TX12_latest_0 1 rfl) (fun v1 => ?_)
  refine ok_if_ne (tgt := 11) (dd TX12_latest_0 2 rfl) (by decide) ?_ ?_
  · refine ok_aload_n (dd TX12_latest_0 5 rfl) 0 rfl ?_
    refine ok_iload_n (dd TX12_latest_0 6 rfl) 1 rfl ?_
    refine ok_aload_n (dd TX12_latest_0 7 rfl) 0 rfl ?_
    refine ok_gI fl_RX12_238 rfl (dd TX12_latest_0 8 rfl) (fun v2 => ?_)
    refine ok_iconst (v := (1 : Int32)) (dd TX12_latest_0 9 rfl) (by decide) ?_
    refine ok_isub (dd TX12_latest_0 10 rfl) ?_
    refine ok_aload_n (dd TX12_latest_0 11 rfl) 0 rfl ?_
    refine ok_gI fl_RX12_238 rfl (dd TX12_latest_0 12 rfl) (fun v3 => ?_)
    refine ok_callVI (cn := 12) [.int p0, .int (v2 - (1 : Int32)), .int v3] [] (fun b4 => C_X12_settleOf Γ b4 p0 (v2 - (1 : Int32)) v3) rfl cy_X12_settleOf ml_RX12_241 im_X12_settleOf se_X12_settleOf (by decide) (by decide) rfl (dd TX12_latest_0 13 rfl) (fun v5 => ?_)
    exact ok_ireturn (dd TX12_latest_0 14 rfl) rfl
  · refine ok_iconst (v := (-1 : Int32)) (dd TX12_latest_0 3 rfl) (by decide) ?_
    refine ok_goto (tgt := 26) (dd TX12_latest_0 4 rfl) (by decide) ?_
    exact ok_ireturn (dd TX12_latest_0 14 rfl) rfl
def F_X12_move_L213 (x0 : Option Nat) (x3 : Int32) (x4 : Int32) (x5 : Int32) (x8 : Int32) (x9 : Int32) (x10 : Int32) : M Unit := bn (gP 12 18 x0) fun v15 => bn (stI 264 v15 x3 x8) fun _ => bn (gP 12 14 x0) fun v16 => bn (lI 232 v16 x9) fun v17 => bn (stI 232 v16 x9 (v17 + x5)) fun _ => bn (gP 12 14 x0) fun v18 => bn (lI 232 v18 x10) fun v19 => bn (stI 232 v18 x10 (v19 - x5)) fun _ => bn (gP 12 15 x0) fun v20 => bn (lL 241 v20 x9) fun v21 => bn (stL 241 v20 x9 (v21 + (x5.toInt64 * x4.toInt64))) fun _ => bn (gP 12 15 x0) fun v22 => bn (lL 241 v22 x10) fun v23 => bn (stL 241 v22 x10 (v23 - (x5.toInt64 * x4.toInt64))) fun _ => rt ()
set_option maxRecDepth 100000 in
theorem O_X12_move_L213 (Γ : Gam) (x0 : Option Nat) (x3 : Int32) (x4 : Int32) (x5 : Int32) (x8 : Int32) (x9 : Int32) (x10 : Int32) : Ok Γ mX12_move 0 vV 213 [(0, va_rf x0), (3, .int x3), (4, .int x4), (5, .int x5), (8, .int x8), (9, .int x9), (10, .int x10)] [] (F_X12_move_L213 x0 x3 x4 x5 x8 x9 x10) := by
  unfold F_X12_move_L213
  refine ok_aload_n (dd TX12_move_2 37 rfl) 0 rfl ?_
  refine ok_gP fl_RX12_51 rfl (dd TX12_move_2 38 rfl) (fun v15 => ?_)
  refine ok_iload_n (dd TX12_move_2 39 rfl) 1 rfl ?_
  refine ok_iload (dd TX12_move_3 0 rfl) 4 rfl ?_
  refine ok_stI (kd := 264) (by decide) rfl (dd TX12_move_3 1 rfl) ?_
  refine ok_aload_n (dd TX12_move_3 2 rfl) 0 rfl ?_
  refine ok_gP fl_RX12_39 rfl (dd TX12_move_3 3 rfl) (fun v16 => ?_)
  refine ok_iload (dd TX12_move_3 4 rfl) 5 rfl ?_
  refine ok_dup2_11 (dd TX12_move_3 5 rfl) (by first | rfl | exact cat_rf _) (by first | rfl | exact cat_rf _) ?_
  refine ok_lI (kd := 232) (by decide) rfl (dd TX12_move_3 6 rfl) (fun v17 => ?_)
  refine ok_iload (dd TX12_move_3 7 rfl) 3 rfl ?_
  refine ok_iadd (dd TX12_move_3 8 rfl) ?_
  refine ok_stI (kd := 232) (by decide) rfl (dd TX12_move_3 9 rfl) ?_
  refine ok_aload_n (dd TX12_move_3 10 rfl) 0 rfl ?_
  refine ok_gP fl_RX12_39 rfl (dd TX12_move_3 11 rfl) (fun v18 => ?_)
  refine ok_iload (dd TX12_move_3 12 rfl) 6 rfl ?_
  refine ok_dup2_11 (dd TX12_move_3 13 rfl) (by first | rfl | exact cat_rf _) (by first | rfl | exact cat_rf _) ?_
  refine ok_lI (kd := 232) (by decide) rfl (dd TX12_move_3 14 rfl) (fun v19 => ?_)
  refine ok_iload (dd TX12_move_3 15 rfl) 3 rfl ?_
  refine ok_isub (dd TX12_move_3 16 rfl) ?_
  refine ok_stI (kd := 232) (by decide) rfl (dd TX12_move_3 17 rfl) ?_
  refine ok_aload_n (dd TX12_move_3 18 rfl) 0 rfl ?_
  refine ok_gP fl_RX12_42 rfl (dd TX12_move_3 19 rfl) (fun v20 => ?_)
  refine ok_iload (dd TX12_move_3 20 rfl) 5 rfl ?_
  refine ok_dup2_11 (dd TX12_move_3 21 rfl) (by first | rfl | exact cat_rf _) (by first | rfl | exact cat_rf _) ?_
  refine ok_lL (kd := 241) (by decide) rfl (dd TX12_move_3 22 rfl) (fun v21 => ?_)
  refine ok_iload (dd TX12_move_3 23 rfl) 3 rfl ?_
  refine ok_i2l (dd TX12_move_3 24 rfl) ?_
  refine ok_iload (dd TX12_move_3 25 rfl) 2 rfl ?_
  refine ok_i2l (dd TX12_move_3 26 rfl) ?_
  refine ok_lmul (dd TX12_move_3 27 rfl) ?_
  refine ok_ladd (dd TX12_move_3 28 rfl) ?_
  refine ok_stL (kd := 241) (by decide) rfl (dd TX12_move_3 29 rfl) ?_
  refine ok_aload_n (dd TX12_move_3 30 rfl) 0 rfl ?_
  refine ok_gP fl_RX12_42 rfl (dd TX12_move_3 31 rfl) (fun v22 => ?_)
  refine ok_iload (dd TX12_move_3 32 rfl) 6 rfl ?_
  refine ok_dup2_11 (dd TX12_move_3 33 rfl) (by first | rfl | exact cat_rf _) (by first | rfl | exact cat_rf _) ?_
  refine ok_lL (kd := 241) (by decide) rfl (dd TX12_move_3 34 rfl) (fun v23 => ?_)
  refine ok_iload (dd TX12_move_3 35 rfl) 3 rfl ?_
  refine ok_i2l (dd TX12_move_3 36 rfl) ?_
  refine ok_iload (dd TX12_move_3 37 rfl) 2 rfl ?_
  refine ok_i2l (dd TX12_move_3 38 rfl) ?_
  refine ok_lmul (dd TX12_move_3 39 rfl) ?_
  refine ok_lsub (dd TX12_move_4 0 rfl) ?_
  refine ok_stL (kd := 241) (by decide) rfl (dd TX12_move_4 1 rfl) ?_
  exact ok_return (dd TX12_move_4 2 rfl) rfl
def F_X12_move_L179 (x0 : Option Nat) (x1 : Int32) (x3 : Int32) (x4 : Int32) (x5 : Int32) (x6 : Int32) (x8 : Int32) (x9 : Int32) (x10 : Int32) (y0 : Int32) (y1 : Int32) : M Unit := if (y1 + y0) ≤ 0 then F_X12_move_L213 x0 x3 x4 x5 x8 x9 x10 else bn (gP 12 16 x0) fun v11 => bn (stI 248 v11 (x6 + x8) x1) fun _ => bn (gP 12 17 x0) fun v12 => bn (stI 256 v12 (x6 + x8) (y1 + y0)) fun _ => F_X12_move_L213 x0 x3 x4 x5 (x8 + (1 : Int32)) x9 x10
set_option maxRecDepth 100000 in
theorem O_X12_move_L179 (Γ : Gam) (x0 : Option Nat) (x1 : Int32) (x3 : Int32) (x4 : Int32) (x5 : Int32) (x6 : Int32) (x8 : Int32) (x9 : Int32) (x10 : Int32) (y0 : Int32) (y1 : Int32) : Ok Γ mX12_move 0 vV 179 [(0, va_rf x0), (1, .int x1), (3, .int x3), (4, .int x4), (5, .int x5), (6, .int x6), (8, .int x8), (9, .int x9), (10, .int x10)] [.int y0, .int y1] (F_X12_move_L179 x0 x1 x3 x4 x5 x6 x8 x9 x10 y0 y1) := by
  unfold F_X12_move_L179
  refine ok_iadd (dd TX12_move_2 18 rfl) ?_
  refine ok_istore (lv' := [(11, .int (y1 + y0)), (0, va_rf x0), (1, .int x1), (3, .int x3), (4, .int x4), (5, .int x5), (6, .int x6), (8, .int x8), (9, .int x9), (10, .int x10)]) (dd TX12_move_2 19 rfl) (by decide) (by first | rfl | (simp only [List.filter, cat_rf]; rfl)) ?_
  refine ok_iload (dd TX12_move_2 20 rfl) 0 rfl ?_
  refine ok_if_le (tgt := 213) (dd TX12_move_2 21 rfl) (by decide) ?_ ?_
  · refine ok_sub [1, 3, 4, 5, 7, 8, 9] rfl ?_
    exact O_X12_move_L213 Γ x0 x3 x4 x5 x8 x9 x10
  · refine ok_aload_n (dd TX12_move_2 22 rfl) 1 rfl ?_
    refine ok_gP fl_RX12_45 rfl (dd TX12_move_2 23 rfl) (fun v11 => ?_)
    refine ok_iload (dd TX12_move_2 24 rfl) 6 rfl ?_
    refine ok_iload (dd TX12_move_2 25 rfl) 7 rfl ?_
    refine ok_iadd (dd TX12_move_2 26 rfl) ?_
    refine ok_iload_n (dd TX12_move_2 27 rfl) 2 rfl ?_
    refine ok_stI (kd := 248) (by decide) rfl (dd TX12_move_2 28 rfl) ?_
    refine ok_aload_n (dd TX12_move_2 29 rfl) 1 rfl ?_
    refine ok_gP fl_RX12_48 rfl (dd TX12_move_2 30 rfl) (fun v12 => ?_)
    refine ok_iload (dd TX12_move_2 31 rfl) 6 rfl ?_
    refine ok_iload (dd TX12_move_2 32 rfl) 7 rfl ?_
    refine ok_iadd (dd TX12_move_2 33 rfl) ?_
    refine ok_iload (dd TX12_move_2 34 rfl) 0 rfl ?_
    refine ok_stI (kd := 256) (by decide) rfl (dd TX12_move_2 35 rfl) ?_
    refine ok_iinc (lv' := [(8, .int (x8 + (1 : Int32))), (11, .int (y1 + y0)), (0, va_rf x0), (1, .int x1), (3, .int x3), (4, .int x4), (5, .int x5), (6, .int x6), (9, .int x9), (10, .int x10)]) (dd TX12_move_2 36 rfl) 7 rfl (congrArg (fun q : Int32 => x8 + q) (show Int32.ofInt (1) = (1 : Int32) from by decide)) (by decide) (by first | rfl | (simp only [List.filter, cat_rf]; rfl)) ?_
    refine ok_sub [2, 4, 5, 6, 0, 8, 9] rfl ?_
    exact O_X12_move_L213 Γ x0 x3 x4 x5 (x8 + (1 : Int32)) x9 x10
def F_X12_move_L134 (k23 : Option Nat → Int32 → Int32 → Int32 → Int32 → Int32 → Int32 → Int32 → Int32 → Int32 → M Unit) (x0 : Option Nat) (x1 : Int32) (x2 : Int32) (x3 : Int32) (x4 : Int32) (x5 : Int32) (x6 : Int32) (x7 : Int32) (x8 : Int32) (x9 : Int32) : M Unit := k23 x0 x1 x2 x3 x4 x5 x6 x7 x8 (x9 + (1 : Int32))
set_option maxRecDepth 100000 in
theorem O_X12_move_L134 (Γ : Gam) (k23 : Option Nat → Int32 → Int32 → Int32 → Int32 → Int32 → Int32 → Int32 → Int32 → Int32 → M Unit) (hk23 : ∀ (z0 : Option Nat) (z1 : Int32) (z2 : Int32) (z3 : Int32) (z4 : Int32) (z5 : Int32) (z6 : Int32) (z7 : Int32) (z8 : Int32) (z9 : Int32), Ok Γ mX12_move 0 vV 23 [(0, va_rf z0), (1, .int z1), (2, .int z2), (3, .int z3), (4, .int z4), (5, .int z5), (6, .int z6), (7, .int z7), (8, .int z8), (9, .int z9)] [] (k23 z0 z1 z2 z3 z4 z5 z6 z7 z8 z9)) (x0 : Option Nat) (x1 : Int32) (x2 : Int32) (x3 : Int32) (x4 : Int32) (x5 : Int32) (x6 : Int32) (x7 : Int32) (x8 : Int32) (x9 : Int32) : Ok Γ mX12_move 0 vV 134 [(0, va_rf x0), (1, .int x1), (2, .int x2), (3, .int x3), (4, .int x4), (5, .int x5), (6, .int x6), (7, .int x7), (8, .int x8), (9, .int x9)] [] (F_X12_move_L134 k23 x0 x1 x2 x3 x4 x5 x6 x7 x8 x9) := by
  unfold F_X12_move_L134
  refine ok_iinc (lv' := [(9, .int (x9 + (1 : Int32))), (0, va_rf x0), (1, .int x1), (2, .int x2), (3, .int x3), (4, .int x4), (5, .int x5), (6, .int x6), (7, .int x7), (8, .int x8)]) (dd TX12_move_1 32 rfl) 9 rfl (congrArg (fun q : Int32 => x9 + q) (show Int32.ofInt (1) = (1 : Int32) from by decide)) (by decide) (by first | rfl | (simp only [List.filter, cat_rf]; rfl)) ?_
  refine ok_goto (tgt := 23) (dd TX12_move_1 33 rfl) (by decide) ?_
  refine ok_sub [1, 2, 3, 4, 5, 6, 7, 8, 9, 0] rfl ?_
  exact hk23 x0 x1 x2 x3 x4 x5 x6 x7 x8 (x9 + (1 : Int32))
def F_X12_move_L99 (k23 : Option Nat → Int32 → Int32 → Int32 → Int32 → Int32 → Int32 → Int32 → Int32 → Int32 → M Unit) (x0 : Option Nat) (x1 : Int32) (x2 : Int32) (x3 : Int32) (x4 : Int32) (x5 : Int32) (x6 : Int32) (x7 : Int32) (x8 : Int32) (x9 : Int32) (x10 : Int32) (x11 : Int32) : M Unit := if ¬ x11 = 0 then bn (gP 12 16 x0) fun v13 => bn (stI 248 v13 (x6 + x8) x10) fun _ => bn (gP 12 17 x0) fun v14 => bn (stI 256 v14 (x6 + x8) x11) fun _ => F_X12_move_L134 k23 x0 x1 x2 x3 x4 x5 x6 x7 (x8 + (1 : Int32)) x9 else F_X12_move_L134 k23 x0 x1 x2 x3 x4 x5 x6 x7 x8 x9
set_option maxRecDepth 100000 in
theorem O_X12_move_L99 (Γ : Gam) (k23 : Option Nat → Int32 → Int32 → Int32 → Int32 → Int32 → Int32 → Int32 → Int32 → Int32 → M Unit) (hk23 : ∀ (z0 : Option Nat) (z1 : Int32) (z2 : Int32) (z3 : Int32) (z4 : Int32) (z5 : Int32) (z6 : Int32) (z7 : Int32) (z8 : Int32) (z9 : Int32), Ok Γ mX12_move 0 vV 23 [(0, va_rf z0), (1, .int z1), (2, .int z2), (3, .int z3), (4, .int z4), (5, .int z5), (6, .int z6), (7, .int z7), (8, .int z8), (9, .int z9)] [] (k23 z0 z1 z2 z3 z4 z5 z6 z7 z8 z9)) (x0 : Option Nat) (x1 : Int32) (x2 : Int32) (x3 : Int32) (x4 : Int32) (x5 : Int32) (x6 : Int32) (x7 : Int32) (x8 : Int32) (x9 : Int32) (x10 : Int32) (x11 : Int32) : Ok Γ mX12_move 0 vV 99 [(0, va_rf x0), (1, .int x1), (2, .int x2), (3, .int x3), (4, .int x4), (5, .int x5), (6, .int x6), (7, .int x7), (8, .int x8), (9, .int x9), (10, .int x10), (11, .int x11)] [] (F_X12_move_L99 k23 x0 x1 x2 x3 x4 x5 x6 x7 x8 x9 x10 x11) := by
  unfold F_X12_move_L99
  refine ok_iload (dd TX12_move_1 14 rfl) 11 rfl ?_
  refine ok_if_ne (tgt := 107) (dd TX12_move_1 15 rfl) (by decide) ?_ ?_
  · refine ok_aload_n (dd TX12_move_1 17 rfl) 0 rfl ?_
    refine ok_gP fl_RX12_45 rfl (dd TX12_move_1 18 rfl) (fun v13 => ?_)
    refine ok_iload (dd TX12_move_1 19 rfl) 6 rfl ?_
    refine ok_iload (dd TX12_move_1 20 rfl) 8 rfl ?_
    refine ok_iadd (dd TX12_move_1 21 rfl) ?_
    refine ok_iload (dd TX12_move_1 22 rfl) 10 rfl ?_
    refine ok_stI (kd := 248) (by decide) rfl (dd TX12_move_1 23 rfl) ?_
    refine ok_aload_n (dd TX12_move_1 24 rfl) 0 rfl ?_
    refine ok_gP fl_RX12_48 rfl (dd TX12_move_1 25 rfl) (fun v14 => ?_)
    refine ok_iload (dd TX12_move_1 26 rfl) 6 rfl ?_
    refine ok_iload (dd TX12_move_1 27 rfl) 8 rfl ?_
    refine ok_iadd (dd TX12_move_1 28 rfl) ?_
    refine ok_iload (dd TX12_move_1 29 rfl) 11 rfl ?_
    refine ok_stI (kd := 256) (by decide) rfl (dd TX12_move_1 30 rfl) ?_
    refine ok_iinc (lv' := [(8, .int (x8 + (1 : Int32))), (0, va_rf x0), (1, .int x1), (2, .int x2), (3, .int x3), (4, .int x4), (5, .int x5), (6, .int x6), (7, .int x7), (9, .int x9), (10, .int x10), (11, .int x11)]) (dd TX12_move_1 31 rfl) 8 rfl (congrArg (fun q : Int32 => x8 + q) (show Int32.ofInt (1) = (1 : Int32) from by decide)) (by decide) (by first | rfl | (simp only [List.filter, cat_rf]; rfl)) ?_
    refine ok_sub [1, 2, 3, 4, 5, 6, 7, 8, 0, 9] rfl ?_
    exact O_X12_move_L134 Γ k23 hk23 x0 x1 x2 x3 x4 x5 x6 x7 (x8 + (1 : Int32)) x9
  · refine ok_goto (tgt := 134) (dd TX12_move_1 16 rfl) (by decide) ?_
    refine ok_sub [0, 1, 2, 3, 4, 5, 6, 7, 8, 9] rfl ?_
    exact O_X12_move_L134 Γ k23 hk23 x0 x1 x2 x3 x4 x5 x6 x7 x8 x9
def F_X12_move_L83 (k23 : Option Nat → Int32 → Int32 → Int32 → Int32 → Int32 → Int32 → Int32 → Int32 → Int32 → M Unit) (x0 : Option Nat) (x1 : Int32) (x2 : Int32) (x3 : Int32) (x4 : Int32) (x5 : Int32) (x6 : Int32) (x7 : Int32) (x8 : Int32) (x9 : Int32) (x10 : Int32) (x11 : Int32) (y0 : Int32) : M Unit := F_X12_move_L99 k23 x0 x1 x2 x3 x4 x5 x6 (x7 - y0) x8 x9 x10 (x11 - y0)
set_option maxRecDepth 100000 in
theorem O_X12_move_L83 (Γ : Gam) (k23 : Option Nat → Int32 → Int32 → Int32 → Int32 → Int32 → Int32 → Int32 → Int32 → Int32 → M Unit) (hk23 : ∀ (z0 : Option Nat) (z1 : Int32) (z2 : Int32) (z3 : Int32) (z4 : Int32) (z5 : Int32) (z6 : Int32) (z7 : Int32) (z8 : Int32) (z9 : Int32), Ok Γ mX12_move 0 vV 23 [(0, va_rf z0), (1, .int z1), (2, .int z2), (3, .int z3), (4, .int z4), (5, .int z5), (6, .int z6), (7, .int z7), (8, .int z8), (9, .int z9)] [] (k23 z0 z1 z2 z3 z4 z5 z6 z7 z8 z9)) (x0 : Option Nat) (x1 : Int32) (x2 : Int32) (x3 : Int32) (x4 : Int32) (x5 : Int32) (x6 : Int32) (x7 : Int32) (x8 : Int32) (x9 : Int32) (x10 : Int32) (x11 : Int32) (y0 : Int32) : Ok Γ mX12_move 0 vV 83 [(0, va_rf x0), (1, .int x1), (2, .int x2), (3, .int x3), (4, .int x4), (5, .int x5), (6, .int x6), (7, .int x7), (8, .int x8), (9, .int x9), (10, .int x10), (11, .int x11)] [.int y0] (F_X12_move_L83 k23 x0 x1 x2 x3 x4 x5 x6 x7 x8 x9 x10 x11 y0) := by
  unfold F_X12_move_L83
  refine ok_istore (lv' := [(12, .int y0), (0, va_rf x0), (1, .int x1), (2, .int x2), (3, .int x3), (4, .int x4), (5, .int x5), (6, .int x6), (7, .int x7), (8, .int x8), (9, .int x9), (10, .int x10), (11, .int x11)]) (dd TX12_move_1 5 rfl) (by decide) (by first | rfl | (simp only [List.filter, cat_rf]; rfl)) ?_
  refine ok_iload (dd TX12_move_1 6 rfl) 12 rfl ?_
  refine ok_iload (dd TX12_move_1 7 rfl) 0 rfl ?_
  refine ok_isub (dd TX12_move_1 8 rfl) ?_
  refine ok_istore (lv' := [(11, .int (x11 - y0)), (12, .int y0), (0, va_rf x0), (1, .int x1), (2, .int x2), (3, .int x3), (4, .int x4), (5, .int x5), (6, .int x6), (7, .int x7), (8, .int x8), (9, .int x9), (10, .int x10)]) (dd TX12_move_1 9 rfl) (by decide) (by first | rfl | (simp only [List.filter, cat_rf]; rfl)) ?_
  refine ok_iload (dd TX12_move_1 10 rfl) 9 rfl ?_
  refine ok_iload (dd TX12_move_1 11 rfl) 1 rfl ?_
  refine ok_isub (dd TX12_move_1 12 rfl) ?_
  refine ok_istore (lv' := [(7, .int (x7 - y0)), (11, .int (x11 - y0)), (12, .int y0), (0, va_rf x0), (1, .int x1), (2, .int x2), (3, .int x3), (4, .int x4), (5, .int x5), (6, .int x6), (8, .int x8), (9, .int x9), (10, .int x10)]) (dd TX12_move_1 13 rfl) (by decide) (by first | rfl | (simp only [List.filter, cat_rf]; rfl)) ?_
  refine ok_sub [3, 4, 5, 6, 7, 8, 9, 0, 10, 11, 12, 1] rfl ?_
  exact O_X12_move_L99 Γ k23 hk23 x0 x1 x2 x3 x4 x5 x6 (x7 - y0) x8 x9 x10 (x11 - y0)
def F_X12_move_L23 : Nat → Option Nat → Int32 → Int32 → Int32 → Int32 → Int32 → Int32 → Int32 → Int32 → Int32 → M Unit
  | 0 => fun _ _ _ _ _ _ _ _ _ _ => fl
  | n + 1 => fun x0 x1 x2 x3 x4 x5 x6 x7 x8 x9 => bn (gP 12 18 x0) fun v1 => bn (lI 264 v1 x3) fun v2 => if v2 ≤ x9 then bn (gP 12 14 x0) fun v3 => bn (lI 232 v3 (((6 : Int32) * x1) + x3)) fun v4 => if 0 ≤ v4 then F_X12_move_L179 x0 x1 x3 x4 x5 x6 x8 (((6 : Int32) * x1) + x3) (((6 : Int32) * x2) + x3) (0 : Int32) x5 else bn (gP 12 14 x0) fun v5 => bn (lI 232 v5 (((6 : Int32) * x1) + x3)) fun v6 => F_X12_move_L179 x0 x1 x3 x4 x5 x6 x8 (((6 : Int32) * x1) + x3) (((6 : Int32) * x2) + x3) v6 x5 else bn (gP 12 16 x0) fun v7 => bn (lI 248 v7 (x6 + x9)) fun v8 => bn (gP 12 17 x0) fun v9 => bn (lI 256 v9 (x6 + x9)) fun v10 => if ¬ v8 = x2 then F_X12_move_L99 (F_X12_move_L23 n) x0 x1 x2 x3 x4 x5 x6 x7 x8 x9 v8 v10 else if x7 ≤ 0 then F_X12_move_L99 (F_X12_move_L23 n) x0 x1 x2 x3 x4 x5 x6 x7 x8 x9 v8 v10 else if x7 ≤ v10 then F_X12_move_L83 (F_X12_move_L23 n) x0 x1 x2 x3 x4 x5 x6 x7 x8 x9 v8 v10 x7 else F_X12_move_L83 (F_X12_move_L23 n) x0 x1 x2 x3 x4 x5 x6 x7 x8 x9 v8 v10 v10
set_option maxRecDepth 100000 in
theorem O_X12_move_L23 (Γ : Gam) (n : Nat) : ∀ (x0 : Option Nat) (x1 : Int32) (x2 : Int32) (x3 : Int32) (x4 : Int32) (x5 : Int32) (x6 : Int32) (x7 : Int32) (x8 : Int32) (x9 : Int32), Ok Γ mX12_move 0 vV 23 [(0, va_rf x0), (1, .int x1), (2, .int x2), (3, .int x3), (4, .int x4), (5, .int x5), (6, .int x6), (7, .int x7), (8, .int x8), (9, .int x9)] [] (F_X12_move_L23 n x0 x1 x2 x3 x4 x5 x6 x7 x8 x9) := by
  induction n with
  | zero => intro x0 x1 x2 x3 x4 x5 x6 x7 x8 x9; exact ok_fl
  | succ n ih =>
    intro x0 x1 x2 x3 x4 x5 x6 x7 x8 x9
    rw [F_X12_move_L23]
    refine ok_iload (dd TX12_move_0 14 rfl) 9 rfl ?_
    refine ok_aload_n (dd TX12_move_0 15 rfl) 0 rfl ?_
    refine ok_gP fl_RX12_51 rfl (dd TX12_move_0 16 rfl) (fun v1 => ?_)
    refine ok_iload_n (dd TX12_move_0 17 rfl) 3 rfl ?_
    refine ok_lI (kd := 264) (by decide) rfl (dd TX12_move_0 18 rfl) (fun v2 => ?_)
    refine ok_icmp_ge (tgt := 140) (dd TX12_move_0 19 rfl) (by decide) ?_ ?_
    · refine ok_bipush (v := (6 : Int32)) (dd TX12_move_1 34 rfl) (by decide) ?_
      refine ok_iload_n (dd TX12_move_1 35 rfl) 1 rfl ?_
      refine ok_imul (dd TX12_move_1 36 rfl) ?_
      refine ok_iload_n (dd TX12_move_1 37 rfl) 3 rfl ?_
      refine ok_iadd (dd TX12_move_1 38 rfl) ?_
      refine ok_istore (lv' := [(9, .int (((6 : Int32) * x1) + x3)), (0, va_rf x0), (1, .int x1), (2, .int x2), (3, .int x3), (4, .int x4), (5, .int x5), (6, .int x6), (7, .int x7), (8, .int x8)]) (dd TX12_move_1 39 rfl) (by decide) (by first | rfl | (simp only [List.filter, cat_rf]; rfl)) ?_
      refine ok_bipush (v := (6 : Int32)) (dd TX12_move_2 0 rfl) (by decide) ?_
      refine ok_iload_n (dd TX12_move_2 1 rfl) 3 rfl ?_
      refine ok_imul (dd TX12_move_2 2 rfl) ?_
      refine ok_iload_n (dd TX12_move_2 3 rfl) 4 rfl ?_
      refine ok_iadd (dd TX12_move_2 4 rfl) ?_
      refine ok_istore (lv' := [(10, .int (((6 : Int32) * x2) + x3)), (9, .int (((6 : Int32) * x1) + x3)), (0, va_rf x0), (1, .int x1), (2, .int x2), (3, .int x3), (4, .int x4), (5, .int x5), (6, .int x6), (7, .int x7), (8, .int x8)]) (dd TX12_move_2 5 rfl) (by decide) (by first | rfl | (simp only [List.filter, cat_rf]; rfl)) ?_
      refine ok_iload (dd TX12_move_2 6 rfl) 7 rfl ?_
      refine ok_aload_n (dd TX12_move_2 7 rfl) 2 rfl ?_
      refine ok_gP fl_RX12_39 rfl (dd TX12_move_2 8 rfl) (fun v3 => ?_)
      refine ok_iload (dd TX12_move_2 9 rfl) 1 rfl ?_
      refine ok_lI (kd := 232) (by decide) rfl (dd TX12_move_2 10 rfl) (fun v4 => ?_)
      refine ok_if_ge (tgt := 178) (dd TX12_move_2 11 rfl) (by decide) ?_ ?_
      · refine ok_iconst (v := (0 : Int32)) (dd TX12_move_2 17 rfl) (by decide) ?_
        refine ok_sub [2, 3, 5, 6, 7, 8, 10, 1, 0] rfl ?_
        exact O_X12_move_L179 Γ x0 x1 x3 x4 x5 x6 x8 (((6 : Int32) * x1) + x3) (((6 : Int32) * x2) + x3) (0 : Int32) x5
      · refine ok_aload_n (dd TX12_move_2 12 rfl) 2 rfl ?_
        refine ok_gP fl_RX12_39 rfl (dd TX12_move_2 13 rfl) (fun v5 => ?_)
        refine ok_iload (dd TX12_move_2 14 rfl) 1 rfl ?_
        refine ok_lI (kd := 232) (by decide) rfl (dd TX12_move_2 15 rfl) (fun v6 => ?_)
        refine ok_goto (tgt := 179) (dd TX12_move_2 16 rfl) (by decide) ?_
        refine ok_sub [2, 3, 5, 6, 7, 8, 10, 1, 0] rfl ?_
        exact O_X12_move_L179 Γ x0 x1 x3 x4 x5 x6 x8 (((6 : Int32) * x1) + x3) (((6 : Int32) * x2) + x3) v6 x5
    · refine ok_aload_n (dd TX12_move_0 20 rfl) 0 rfl ?_
      refine ok_gP fl_RX12_45 rfl (dd TX12_move_0 21 rfl) (fun v7 => ?_)
      refine ok_iload (dd TX12_move_0 22 rfl) 6 rfl ?_
      refine ok_iload (dd TX12_move_0 23 rfl) 9 rfl ?_
      refine ok_iadd (dd TX12_move_0 24 rfl) ?_
      refine ok_lI (kd := 248) (by decide) rfl (dd TX12_move_0 25 rfl) (fun v8 => ?_)
      refine ok_istore (lv' := [(10, .int v8), (0, va_rf x0), (1, .int x1), (2, .int x2), (3, .int x3), (4, .int x4), (5, .int x5), (6, .int x6), (7, .int x7), (8, .int x8), (9, .int x9)]) (dd TX12_move_0 26 rfl) (by decide) (by first | rfl | (simp only [List.filter, cat_rf]; rfl)) ?_
      refine ok_aload_n (dd TX12_move_0 27 rfl) 1 rfl ?_
      refine ok_gP fl_RX12_48 rfl (dd TX12_move_0 28 rfl) (fun v9 => ?_)
      refine ok_iload (dd TX12_move_0 29 rfl) 7 rfl ?_
      refine ok_iload (dd TX12_move_0 30 rfl) 10 rfl ?_
      refine ok_iadd (dd TX12_move_0 31 rfl) ?_
      refine ok_lI (kd := 256) (by decide) rfl (dd TX12_move_0 32 rfl) (fun v10 => ?_)
      refine ok_istore (lv' := [(11, .int v10), (10, .int v8), (0, va_rf x0), (1, .int x1), (2, .int x2), (3, .int x3), (4, .int x4), (5, .int x5), (6, .int x6), (7, .int x7), (8, .int x8), (9, .int x9)]) (dd TX12_move_0 33 rfl) (by decide) (by first | rfl | (simp only [List.filter, cat_rf]; rfl)) ?_
      refine ok_iload (dd TX12_move_0 34 rfl) 1 rfl ?_
      refine ok_iload_n (dd TX12_move_0 35 rfl) 4 rfl ?_
      refine ok_icmp_ne (tgt := 99) (dd TX12_move_0 36 rfl) (by decide) ?_ ?_
      · refine ok_sub [2, 3, 4, 5, 6, 7, 8, 9, 10, 11, 1, 0] rfl ?_
        exact O_X12_move_L99 Γ (F_X12_move_L23 n) ih x0 x1 x2 x3 x4 x5 x6 x7 x8 x9 v8 v10
      · refine ok_iload (dd TX12_move_0 37 rfl) 9 rfl ?_
        refine ok_if_le (tgt := 99) (dd TX12_move_0 38 rfl) (by decide) ?_ ?_
        · refine ok_sub [2, 3, 4, 5, 6, 7, 8, 9, 10, 11, 1, 0] rfl ?_
          exact O_X12_move_L99 Γ (F_X12_move_L23 n) ih x0 x1 x2 x3 x4 x5 x6 x7 x8 x9 v8 v10
        · refine ok_iload (dd TX12_move_0 39 rfl) 0 rfl ?_
          refine ok_iload (dd TX12_move_1 0 rfl) 9 rfl ?_
          refine ok_icmp_ge (tgt := 81) (dd TX12_move_1 1 rfl) (by decide) ?_ ?_
          · refine ok_iload (dd TX12_move_1 4 rfl) 9 rfl ?_
            refine ok_sub [2, 3, 4, 5, 6, 7, 8, 9, 10, 11, 1, 0] rfl ?_
            exact O_X12_move_L83 Γ (F_X12_move_L23 n) ih x0 x1 x2 x3 x4 x5 x6 x7 x8 x9 v8 v10 x7
          · refine ok_iload (dd TX12_move_1 2 rfl) 0 rfl ?_
            refine ok_goto (tgt := 83) (dd TX12_move_1 3 rfl) (by decide) ?_
            refine ok_sub [2, 3, 4, 5, 6, 7, 8, 9, 10, 11, 1, 0] rfl ?_
            exact O_X12_move_L83 Γ (F_X12_move_L23 n) ih x0 x1 x2 x3 x4 x5 x6 x7 x8 x9 v8 v10 v10
def F_X12_move (this : Nat) (p0 : Int32) (p1 : Int32) (p2 : Int32) (p3 : Int32) (p4 : Int32) : M Unit := if ¬ p0 = p1 then F_X12_move_L23 FU (some this) p0 p1 p2 p3 p4 ((1600 : Int32) * p2) p4 (0 : Int32) (0 : Int32) else rt ()
set_option maxRecDepth 100000 in
theorem C_X12_move (Γ : Gam) (this : Nat) (p0 : Int32) (p1 : Int32) (p2 : Int32) (p3 : Int32) (p4 : Int32) : Ct Γ mX12_move 0 vV [va_rf (some this), .int p0, .int p1, .int p2, .int p3, .int p4] (F_X12_move this p0 p1 p2 p3 p4) := by
  refine ct_in (lv := [(0, va_rf (some this)), (1, .int p0), (2, .int p1), (3, .int p2), (4, .int p3), (5, .int p4)]) (by decide) (by first | rfl | (simp only [lv_args, cat_rf]; rfl)) (by first | exact Nat.le_of_ble_eq_true rfl | (rw [lg_len]; simp only [List.map_cons, List.map_nil, cat_rf]; exact Nat.le_of_ble_eq_true rfl)) ?_
  unfold F_X12_move
  refine ok_iload_n (dd TX12_move_0 0 rfl) 1 rfl ?_
  refine ok_iload_n (dd TX12_move_0 1 rfl) 2 rfl ?_
  refine ok_icmp_ne (tgt := 6) (dd TX12_move_0 2 rfl) (by decide) ?_ ?_
  · refine ok_sipush (v := (1600 : Int32)) (dd TX12_move_0 4 rfl) (by decide) ?_
    refine ok_iload_n (dd TX12_move_0 5 rfl) 3 rfl ?_
    refine ok_imul (dd TX12_move_0 6 rfl) ?_
    refine ok_istore (lv' := [(6, .int ((1600 : Int32) * p2)), (0, va_rf (some this)), (1, .int p0), (2, .int p1), (3, .int p2), (4, .int p3), (5, .int p4)]) (dd TX12_move_0 7 rfl) (by decide) (by first | rfl | (simp only [List.filter, cat_rf]; rfl)) ?_
    refine ok_iload (dd TX12_move_0 8 rfl) 6 rfl ?_
    refine ok_istore (lv' := [(7, .int p4), (6, .int ((1600 : Int32) * p2)), (0, va_rf (some this)), (1, .int p0), (2, .int p1), (3, .int p2), (4, .int p3), (5, .int p4)]) (dd TX12_move_0 9 rfl) (by decide) (by first | rfl | (simp only [List.filter, cat_rf]; rfl)) ?_
    refine ok_iconst (v := (0 : Int32)) (dd TX12_move_0 10 rfl) (by decide) ?_
    refine ok_istore (lv' := [(8, .int (0 : Int32)), (7, .int p4), (6, .int ((1600 : Int32) * p2)), (0, va_rf (some this)), (1, .int p0), (2, .int p1), (3, .int p2), (4, .int p3), (5, .int p4)]) (dd TX12_move_0 11 rfl) (by decide) (by first | rfl | (simp only [List.filter, cat_rf]; rfl)) ?_
    refine ok_iconst (v := (0 : Int32)) (dd TX12_move_0 12 rfl) (by decide) ?_
    refine ok_istore (lv' := [(9, .int (0 : Int32)), (8, .int (0 : Int32)), (7, .int p4), (6, .int ((1600 : Int32) * p2)), (0, va_rf (some this)), (1, .int p0), (2, .int p1), (3, .int p2), (4, .int p3), (5, .int p4)]) (dd TX12_move_0 13 rfl) (by decide) (by first | rfl | (simp only [List.filter, cat_rf]; rfl)) ?_
    refine ok_sub [4, 5, 6, 7, 8, 9, 3, 2, 1, 0] rfl ?_
    exact O_X12_move_L23 Γ FU (some this) p0 p1 p2 p3 p4 ((1600 : Int32) * p2) p4 (0 : Int32) (0 : Int32)
  · exact ok_return (dd TX12_move_0 3 rfl) rfl
def F_X12_fault (this : Nat) (p0 : Int32) : M Int32 := bn (wI 12 35 (some this) (0 : Int32)) fun _ => if ¬ p0 = 0 then if ¬ p0 = (1 : Int32) then rt (-1 : Int32) else bn (gI 12 3 (some this)) fun v1 => rt v1 else bn (gI 12 2 (some this)) fun v2 => rt v2
set_option maxRecDepth 100000 in
theorem C_X12_fault (Γ : Gam) (this : Nat) (p0 : Int32) : Ct Γ mX12_fault 0 vI [va_rf (some this), .int p0] (F_X12_fault this p0) := by
  refine ct_in (lv := [(0, va_rf (some this)), (1, .int p0)]) (by decide) (by first | rfl | (simp only [lv_args, cat_rf]; rfl)) (by first | exact Nat.le_of_ble_eq_true rfl | (rw [lg_len]; simp only [List.map_cons, List.map_nil, cat_rf]; exact Nat.le_of_ble_eq_true rfl)) ?_
  unfold F_X12_fault
  refine ok_aload_n (dd TX12_fault_0 0 rfl) 0 rfl ?_
  refine ok_iconst (v := (0 : Int32)) (dd TX12_fault_0 1 rfl) (by decide) ?_
  refine ok_wI fl_RX12_90 (Or.inl rfl) (tyX12_ok 35 (by decide)) (by decide) rfl (dd TX12_fault_0 2 rfl) ?_
  refine ok_iload_n (dd TX12_fault_0 3 rfl) 1 rfl ?_
  refine ok_if_ne (tgt := 16) (dd TX12_fault_0 4 rfl) (by decide) ?_ ?_
  · refine ok_iload_n (dd TX12_fault_0 8 rfl) 1 rfl ?_
    refine ok_iconst (v := (1 : Int32)) (dd TX12_fault_0 9 rfl) (by decide) ?_
    refine ok_icmp_ne (tgt := 28) (dd TX12_fault_0 10 rfl) (by decide) ?_ ?_
    · refine ok_iconst (v := (-1 : Int32)) (dd TX12_fault_0 14 rfl) (by decide) ?_
      exact ok_ireturn (dd TX12_fault_0 15 rfl) rfl
    · refine ok_aload_n (dd TX12_fault_0 11 rfl) 0 rfl ?_
      refine ok_gI fl_RX12_159 rfl (dd TX12_fault_0 12 rfl) (fun v1 => ?_)
      refine ok_goto (tgt := 29) (dd TX12_fault_0 13 rfl) (by decide) ?_
      exact ok_ireturn (dd TX12_fault_0 15 rfl) rfl
  · refine ok_aload_n (dd TX12_fault_0 5 rfl) 0 rfl ?_
    refine ok_gI fl_RX12_156 rfl (dd TX12_fault_0 6 rfl) (fun v2 => ?_)
    refine ok_goto (tgt := 29) (dd TX12_fault_0 7 rfl) (by decide) ?_
    exact ok_ireturn (dd TX12_fault_0 15 rfl) rfl
