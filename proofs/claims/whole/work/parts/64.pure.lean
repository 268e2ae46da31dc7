def txOf (v : VP) (n : Nat) : Except q_Er (List (Int32 × Int32 × q_Pr)) := if lxk (lexOf v.2.1 v.1) 0 = -1 then .error (1, lxf (lexOf v.2.1 v.1) 0) else pTx (lexOf v.2.1 v.1) 31 n 0
def rulesR (s : q_St) (r : Except q_Er (List (Int32 × Int32 × q_Pr))) : Int32 × q_St := match r with
  | .error e => (-1, wP' s (0, (sP' s).2.1, e.1, q_i3 e.2))
  | .ok l => (q_i3 l.length, wU (wP' s (0, (sP' s).2.1, 0, 0)) (sU s ++ l.map ruOf))
def fRules (s : q_St) : Int32 × q_St := rulesR s (txOf (sP' s) (sU s).length)
theorem txOf_nz (v : VP) (n : Nat) : NZ (txOf v n) := NZ.ite (NZ.er (by decide)) (tx_nz _ _ _ _)
theorem CU.pre {μ ν : Mem} {b : Nat} {U B : List q_Ru} (h : CU μ b (U ++ B)) (f : q_Fr [832, 833, 834, 2372] μ ν) (hl : q_lst ν (b + 5) = (q_lst μ (b + 5)).take U.length) : CU ν b U := by
  obtain ⟨h1, h0, h2⟩ := h
  rw [List.length_append] at h1 h0
  refine ⟨by rw [hl, List.length_take]; omega, by omega, fun k hk => ?_⟩
  have er : rl ν b k = rl μ b k := by
    unfold rl; rw [hl]
    simp only [List.getD_eq_getElem?_getD]
    rw [List.getElem?_take_of_lt hk]
  have eg : (U ++ B).getD k r0 = U.getD k r0 := by simp only [List.getD_eq_getElem?_getD]; rw [List.getElem?_append_left hk]
  obtain ⟨g1, g2, g3, e, g4, d1, d2, d3⟩ := h2 k (by rw [List.length_append]; omega)
  rw [eg] at g2 g3 d3
  rw [er, f.i 384 rfl, f.i 385 rfl, f.p 386 rfl]
  exact ⟨f.k g1 (by omega), g2, g3, e, g4, f.k d1 (by omega), by rw [f.n (by omega) rfl]; exact d2, fun ρ q1 qt q2 q3 q_q4 => d3 ρ q1 qt q2 (by rw [q3]; exact f.n (by omega) rfl) (by rw [q_q4, f.ai 128 rfl])⟩
def RLS : List Nat := [257, 258, 259, 260, 261, 262, 263, 264, 266, 2120, 384, 385, 386, 2128, 832, 833, 834, 2372]
theorem c_rules {μ : Mem} {b c : Nat} {s : q_St} (hK : K0 μ b) (hW : WF μ) (hA : q_AC μ b s) (hI : Iv s c) : q_wp (F_X11_rules b) μ (fun r ν => r = (fRules s).1 ∧ cOK μ b (fRules s).2 130 4000 ν) := by
  obtain ⟨hM, hL, hO, hT, hD, hR, hN, hU, hP⟩ := id hA
  have h600 : (sP' s).1 ≤ 600 := hI.2.2.2.2.2.2.2.2
  have hU30 : (sU s).length ≤ 30 := hU.2.1
  obtain ⟨p1, p2, p3, p4⟩ := hP
  obtain ⟨R, eR⟩ : ∃ R, R = txOf (sP' s) (sU s).length := ⟨_, rfl⟩
  have eF : fRules s = rulesR s R := by rw [eR]; rfl
  have hnz : NZ R := by rw [eR]; exact txOf_nz _ _
  rw [eF]
  unfold F_X11_rules
  rw [wp_bn, xgP11_0 hK, wp_bn, xgP11_1 hK, wp_bn, xgP7_0 hK, wp_bn, xpR4 hK, wp_bn]
  unfold F_X4_readText
  have k1 : mK μ (b + 1) ≠ 0 := by rw [kk4 hK]; omega
  rw [wp_bn, xpL_5 hK, wp_bn, wp_eq (ls_size hW (hK.k 5 14 (by decide))), hU.1]
  have m1 : Md [258, 259, 260, 262] μ (sI (sI (sI (sI μ 258 (b + 1) 0) 259 (b + 1) 0) 260 (b + 1) 0) 262 (b + 1) 17) := ((((Md.sI (f := 258) (v := 0) k1).tr (Md.sI (f := 259) (v := 0) k1)).tr (Md.sI (f := 260) (v := 0) k1)).tr (Md.sI (f := 262) (v := 17) k1)).wk rfl
  obtain ⟨μ1, e1⟩ : ∃ μ1, μ1 = sI (sI (sI (sI μ 258 (b + 1) 0) 259 (b + 1) 0) 260 (b + 1) 0) 262 (b + 1) 17 := ⟨_, rfl⟩
  have b58 : mI μ1 258 (b + 1) = 0 := by rw [e1]; simp [mI_sI']
  have b59 : mI μ1 259 (b + 1) = 0 := by rw [e1]; simp [mI_sI']
  have b60 : mI μ1 260 (b + 1) = q_i3 0 := by rw [e1]; simp [mI_sI']; rfl
  have b62 : mI μ1 262 (b + 1) = 17 := by rw [e1]; simp [mI_sI']
  simp (maxSteps := 2000000) (disch := first | assumption | omega | (simp only [K0_sI, K0_sL, K0_tI, K0_tL, K0_nE]; assumption)) only [wp_bn, xgI11, xgL11, xwI11, xpR11, xgI4, xgL4, xwI4, xpR4, xgI7, xgL7, xwI7, xpR7, xgI12, xgL12, xwI12, xpR12, xgP11_0, xgP11_1, xgP11_2, xgP11_3, xgP11_4, xgP11_5, xgP11_6, xgP11_7, xgP4_0, xl115, xs115, xgP4_9, xl120, xs120, xgP7_0, xgP7_1, xl136, xs136, xgP7_2, xl144, xs144, xgP12_0, xl160, xs160, xgP12_4, xl168, xs168, xgP12_5, xl176, xs176, xgP12_6, xl184, xs184, xgP12_7, xl192, xs192, xgP12_8, xl200, xs200, xgP12_11, xl209, xs209, xgP12_12, xl218, xs218, xgP12_13, xl226, xs226, xgP12_14, xl232, xs232, xgP12_15, xl241, xs241, xgP12_16, xl248, xs248, xgP12_17, xl256, xs256, xgP12_18, xl264, xs264, xgP12_19, xl274, xs274, xgP12_20, xl280, xs280, xgP12_22, xl288, xs288, xgP12_25, xl296, xs296, xgP12_26, xl305, xs305, xgP12_27, xl312, xs312, xgP12_28, xl321, xs321, xgP12_29, xl328, xs328, xgP12_31, xl336, xs336, xgP12_33, xl344, xs344, xgP12_46, xl352, xs352, xgP12_47, xl360, xs360, xgP2_0, xpL2_0, xgP2_1, xpL2_1, xgP2_2, xpL2_2, xgI2, xwZ2, xpR2, xmo, xpL_5, xpL_33, xpL_34, xpL_35, xpL_36, xpL_37, Nat.reduceMul, Nat.reduceAdd]
  rw [← e1] at m1 ⊢
  have E1 : q_Env μ1 b (sP' s).2.1 (sP' s).1 := q_Env.md (S := [258, 259, 260, 262]) ⟨hK, hW, p1, h600, p4⟩ m1 rfl
  have hAdv := c_advOK b (sP' s).2.1 (sP' s).1
  have hx := lex_ok (sP' s).2.1 (sP' s).1
  have U1 : CU μ1 b (sU s) := hU.fr m1.1 (by rw [(m1.wf hW rfl).2]) rfl
  refine q_wp_mono (hAdv μ1 0 E1 (by rw [b62]; decide) b58 b59 (by omega) b60) ?_
  rintro _ μ2 ⟨m2, g1, g2⟩
  have E2 := E1.md m2 rfl
  have m12 := m1.tr m2
  have U2 : CU μ2 b (sU s) := U1.fr m2.1 (by rw [(m2.wf E1.2.1 rfl).2]) rfl
  have C12 := (m12.cs (b := b) hW rfl).wk (T := TXS) (N := [5]) (y := 0) (t := 0) rfl rfl (by omega) (by omega)
  have fin : ∀ l ν, R = .ok l → q_Env ν b (sP' s).2.1 (sP' s).1 → mI ν 258 (b + 1) = 0 → mI ν 259 (b + 1) = 0 → CU ν b (sU s ++ l.map ruOf) → l.length + (sU s).length ≤ 30 → Cs TXS [5] (3 * l.length) (130 * l.length) b μ ν → q_wp (F_X4_readText_L68 (b + 1) (some (b + 5)) (q_i3 (sU s).length)) ν (fun a μ' => q_wp (rt a) μ' (fun r ν => r = (rulesR s R).1 ∧ cOK μ b (rulesR s R).2 130 4000 ν)) := by
    intro l ν hl Eν h258 h259 Uν hb Cν
    unfold F_X4_readText_L68
    rw [wp_bn, xwI4 Eν.1]
    have mw : Md [257] ν (sI ν (64 * 4 + 1) (b + 1) 0) := Md.sI (by rw [kk4 Eν.1]; omega)
    have Kw := mw.k0 Eν.1
    obtain ⟨Ww, lw⟩ := mw.wf Eν.2.1 rfl
    rw [wp_bn, xgI4 Kw, show mI (sI ν (64 * 4 + 1) (b + 1) 0) (64 * 4 + 2) (b + 1) = 0 by rw [mw.1.i _ rfl]; exact h258, wp_ite, if_neg (fun z => z rfl), wp_bn, xpL_5 Kw, wp_bn, wp_eq (ls_size Ww (Kw.k 5 14 (by decide))), lw, Uν.1, wp_rt, wp_rt, hl]
    refine ⟨?_, ?_⟩
    · show q_i3 (sU s ++ l.map ruOf).length - q_i3 (sU s).length = q_i3 l.length
      rw [List.length_append, List.length_map, i3_sub (by omega)]; congr 1; omega
    have hC := (Cν.tr (mw.cs (b := b) Eν.2.1 rfl)).wk (T := RLS) (N := [5]) (y := 130) (t := 4000) rfl rfl (by omega) (by omega)
    show cOK μ b (wU (wP' s (0, (sP' s).2.1, 0, 0)) (sU s ++ l.map ruOf)) 130 4000 _
    refine cOK.of hK ⟨hM.fr hC.2.1 (hC.2.2.1 33 (by decide) (by decide)) rfl, hL.fr hC.2.1 (fun i hi => hC.2.2.1 _ (lgO_lo hi) (lgNo (by decide) hi)) rfl, hO.fr hC.2.1 (fun i hi s => hC.2.2.1 _ (sdO_lo hi s) (sdNo (by decide) hi s)) rfl, hT.fr hC.2.1 (hC.2.2.1 34 (by decide) (by decide)) rfl, hD.fr hC.2.1 (hC.2.2.1 37 (by decide) (by decide)) rfl, hR.fr hC.2.1 (hC.2.2.1 35 (by decide) (by decide)) rfl, hN.fr hC.2.1 (hC.2.2.1 36 (by decide) (by decide)) rfl, Uν.fr mw.1 (by rw [lw]) rfl, ?_⟩ hC rfl rfl
    exact ⟨by rw [mI_sI', if_pos ⟨rfl, rfl⟩]; rfl, by rw [mw.1.i 258 rfl]; exact h258, by rw [mw.1.i 259 rfl]; exact h259, fun i hi => absurd hi (Nat.not_lt_zero _)⟩
  have bad : ∀ e ν B, R = .error e → q_Env ν b (sP' s).2.1 (sP' s).1 → CBr ν b e → CU ν b (sU s ++ B) → B.length + (sU s).length ≤ 30 → Cs TXS [5] (3 * B.length) (130 * B.length) b μ ν → q_wp (F_X4_readText_L68 (b + 1) (some (b + 5)) (q_i3 (sU s).length)) ν (fun a μ' => q_wp (rt a) μ' (fun r ν => r = (rulesR s R).1 ∧ cOK μ b (rulesR s R).2 130 4000 ν)) := by
    intro e ν B he Eν hB Uν hb Cν
    have hne : e.1 ≠ 0 := hnz e he
    unfold F_X4_readText_L68
    rw [wp_bn, xwI4 Eν.1]
    have mw : Md [257] ν (sI ν (64 * 4 + 1) (b + 1) 0) := Md.sI (by rw [kk4 Eν.1]; omega)
    obtain ⟨νw, ew⟩ : ∃ νw, νw = sI ν (64 * 4 + 1) (b + 1) 0 := ⟨_, rfl⟩
    have z257 : mI νw 257 (b + 1) = q_i3 0 := by rw [ew, mI_sI', if_pos ⟨rfl, rfl⟩]; rfl
    rw [← ew] at mw ⊢
    have Kw := mw.k0 Eν.1
    obtain ⟨Ww, lw⟩ := mw.wf Eν.2.1 rfl
    have Uw : CU νw b (sU s ++ B) := Uν.fr mw.1 (by rw [lw]) rfl
    have lB : (q_lst νw (b + 5)).length = (sU s).length + B.length := by rw [Uw.1, List.length_append]
    rw [wp_bn, xgI4 Kw, show mI νw (64 * 4 + 2) (b + 1) = e.1 by rw [mw.1.i _ rfl]; exact hB.2.1, wp_ite, if_pos hne, wp_bn, xpL_5 Kw, wp_bn, wp_eq (ls_size Ww (Kw.k 5 14 (by decide))), lB]
    refine q_wp_mono (c_textDel (b := b) B.length FU νw Kw Ww lB (by omega) (by show _ < 100000; omega)) ?_
    rintro r ρ ⟨rfl, Cd, ld⟩
    rw [wp_rt, he]
    refine ⟨rfl, ?_⟩
    have hC := ((Cν.tr (mw.cs (b := b) Eν.2.1 rfl)).tr Cd).wk (T := RLS) (N := [5]) (y := 130) (t := 4000) rfl rfl (by omega) (by omega)
    show cOK μ b (wP' s (0, (sP' s).2.1, e.1, q_i3 e.2)) 130 4000 ρ
    refine cOK.of hK ⟨hM.fr hC.2.1 (hC.2.2.1 33 (by decide) (by decide)) rfl, hL.fr hC.2.1 (fun i hi => hC.2.2.1 _ (lgO_lo hi) (lgNo (by decide) hi)) rfl, hO.fr hC.2.1 (fun i hi s => hC.2.2.1 _ (sdO_lo hi s) (sdNo (by decide) hi s)) rfl, hT.fr hC.2.1 (hC.2.2.1 34 (by decide) (by decide)) rfl, hD.fr hC.2.1 (hC.2.2.1 37 (by decide) (by decide)) rfl, hR.fr hC.2.1 (hC.2.2.1 35 (by decide) (by decide)) rfl, hN.fr hC.2.1 (hC.2.2.1 36 (by decide) (by decide)) rfl, Uw.pre Cd.2.1 ld, ?_⟩ hC rfl rfl
    exact ⟨by rw [Cd.2.1.i 257 rfl]; exact z257, by rw [Cd.2.1.i 258 rfl, mw.1.i 258 rfl]; exact hB.2.1, by rw [Cd.2.1.i 259 rfl, mw.1.i 259 rfl]; exact hB.2.2, fun i hi => absurd hi (Nat.not_lt_zero _)⟩
  by_cases hb : lxk (lexOf (sP' s).2.1 (sP' s).1) 0 = -1
  · have er : R = .error (1, lxf (lexOf (sP' s).2.1 (sP' s).1) 0) := by rw [eR]; unfold txOf; rw [if_pos hb]
    have B2 := g1 hb
    show q_wp (F_X4_readText_L32 (99999 + 1) (b + 1) (some (b + 5)) (q_i3 (sU s).length) 0) μ2 _
    unfold F_X4_readText_L32
    rw [wp_ite, if_neg (by decide), wp_bn, xgI4 E2.1, show mI μ2 (64 * 4 + 6) (b + 1) = 18 from B2.1, wp_ite, if_neg (by decide), wp_bn, xgI4 E2.1, show mI μ2 (64 * 4 + 6) (b + 1) = 18 from B2.1, wp_ite, if_pos rfl]
    exact bad _ μ2 [] er E2 B2 (by rw [List.append_nil]; exact U2) (by show 0 + _ ≤ 30; omega) (C12.wk rfl rfl (by omega) (by omega))
  · have er : R = pTx (lexOf (sP' s).2.1 (sP' s).1) 31 (sU s).length 0 := by rw [eR]; unfold txOf; rw [if_neg hb]
    have S2 : rSt μ2 b (lexOf (sP' s).2.1 (sP' s).1) (sP' s).1 0 := ⟨g2 hb, hb, by omega⟩
    refine c_textL (U := sU s) hAdv hx 31 [] 0 FU 0 μ2 E2 S2 (by rw [List.append_nil]; exact U2) (by omega) (by rw [List.append_nil]; omega) (by show 31 < 100000; omega) ?_ ?_
    · intro l ν q' hl Eν Sν Uν hbν Cν
      rw [List.append_nil] at hl Uν hbν
      exact fin l ν (er.trans hl) Eν Sν.1.2.2.2.2.1 Sν.1.2.2.2.2.2 Uν hbν ((C12.tr Cν).wk rfl rfl (by omega) (by omega))
    · intro e ν B he Eν Bν Uν hbν Cν
      rw [List.append_nil] at he Uν hbν
      exact bad e ν B (er.trans he) Eν Bν Uν hbν ((C12.tr Cν).wk rfl rfl (by omega) (by omega))

def EnvR (μ : Mem) (b : Nat) (tp : Nat → Int32) (L : Nat) : Prop := K0 μ b ∧ TT μ ∧ mI μ 808 (b + 38) = q_i3 L ∧ L ≤ 600 ∧ ∀ i, i < L → aI μ 160 (b + 39) i = tp i
theorem EnvR.md {S : List Nat} {μ ν : Mem} {b L : Nat} {tp : Nat → Int32} (h : EnvR μ b tp L) (m : Md S μ ν) (hS : disj [808, 2160] S = true) : EnvR ν b tp L := by
  obtain ⟨h1, h2, h3, h4, h5⟩ := h
  exact ⟨m.k0 h1, m.tt h2, by rw [m.1.i 808 (disj_nc hS (by decide))]; exact h3, h4, by rw [m.1.ai 160 (disj_nc hS (by decide))]; exact h5⟩
def WDR : List (List Int32) := [[108, 105, 109, 105, 116], [102, 105, 114, 115, 116], [107, 101, 101, 112], [99, 97, 112], [100, 105, 102, 102], [102, 101, 101], [102, 114, 111, 109], [105, 115], [109, 105, 110], [109, 97, 120], [100, 97, 121], [109, 111, 110, 116, 104], [112, 114, 105, 99, 101], [108, 111, 116, 115], [103, 114, 97, 100, 101], [112, 108, 97, 99, 101]]
theorem tx2 : tx 2 = flW WDR := by decide
theorem wix_not {s : List Int32} : ∀ (ws : List (List Int32)) (k : Nat), s ∉ ws → q_wix ws k s = -1
  | [], _, _ => rfl
  | w :: ws, k, h => by
    unfold q_wix
    rw [if_neg (fun z => h (by rw [z]; simp))]
    exact wix_not ws (k + 1) (fun z => h (by simp [z]))
theorem wix_rc (s : List Int32) : (q_wix WDC 0 s = -1 → q_wix WDR 0 s = -1) ∧ (q_wix WDC 0 s ≠ -1 → q_wix WDR 0 s ≠ -1 ∧ ∀ n, q_wix WDR 0 s = rvv (q_wix WDC 0 s) n) := by
  by_cases h : s ∈ WDC
  · have key : ∀ s ∈ WDC, q_wix WDC 0 s ≠ -1 ∧ q_wix WDR 0 s ≠ -1 ∧ q_wix WDC 0 s ≠ 16 ∧ q_wix WDR 0 s = rvv (q_wix WDC 0 s) 0 := by decide
    obtain ⟨h1, h2, h3, h4⟩ := key s h
    refine ⟨fun z => absurd z h1, fun _ => ⟨h2, fun n => ?_⟩⟩
    rw [h4]; unfold rvv; rw [if_neg h3, if_neg h3]
  · have h2 : s ∉ WDR := fun z => h (by
      have key : ∀ s ∈ WDR, s ∈ WDC := by decide
      exact key s z)
    rw [wix_not WDC 0 h, wix_not WDR 0 h2]
    exact ⟨fun _ => rfl, fun z => absurd rfl z⟩
theorem r_cmp {b p e k : Nat} {tp : Nat → Int32} {L : Nat} {μ : Mem} {K5 : Nat → Int32 → Int32 → Int32 → Int32 → M Int32} {x5 : Int32} {Q : Int32 → Mem → Prop} (hE : EnvR μ b tp L) (he : e ≤ L) (pre rest w : List Int32) (hs : tx 2 = pre ++ (w ++ 32 :: rest)) (hpe : p + w.length = e) (hn : slc tp p e ≠ w → q_wp (K5 (b + 38) (q_i3 p) (q_i3 e) (q_i3 k + 1) (x5 + 1)) μ Q) (hy : slc tp p e = w → Q (q_i3 k) μ) : ∀ (d m f : Nat), m + d = w.length → d + 2 < f → slc tp p (p + m) = w.take m → q_wp (F_X12_wordAt_L47 K5 f (b + 38) (q_i3 p) (q_i3 e) (q_i3 k) (q_i3 pre.length) x5 1 (q_i3 m)) μ Q := by
  obtain ⟨t, v, h1, hX⟩ := hE.2.1.tx (i := 2) (by omega)
  obtain ⟨l1, l2, _⟩ := tx_len (i := 2) (by omega)
  have hL := hE.2.2.2.1
  have hlen : pre.length + w.length < kLn.getD 2 0 := by rw [← l1, hs]; simp
  have e1 : q_i3 e - q_i3 p = q_i3 w.length := by rw [i3_sub (by omega)]; congr 1; omega
  intro d
  induction d with
  | zero =>
    intro m f hm hf hsl
    obtain ⟨f, rfl⟩ : ∃ f', f = f' + 1 := ⟨f - 1, by omega⟩
    unfold F_X12_wordAt_L47 F_X12_wordAt_L95
    rw [wp_ite, if_neg (by decide), wp_ite, e1, if_pos ((i3_le (by omega) (by omega)).mpr (by omega)), wp_ite, if_neg (by decide), wp_rt]
    refine hy ?_
    rw [show p + m = e by omega, List.take_of_length_le (by omega)] at hsl; exact hsl
  | succ d ih =>
    intro m f hm hf hsl
    obtain ⟨f, rfl⟩ : ∃ f', f = f' + 1 := ⟨f - 1, by omega⟩
    have ec : (tx 2).getD (pre.length + m) 0 = w.getD m 0 := by
      rw [hs]; simp only [List.getD_eq_getElem?_getD]
      rw [List.getElem?_append_right (by omega), show pre.length + m - pre.length = m by omega, List.getElem?_append_left (by omega)]
    have tv := hE.2.2.2.2 (p + m) (by omega)
    have sl1 : slc tp p (p + (m + 1)) = slc tp p (p + m) ++ [tp (p + m)] := by
      unfold slc
      rw [show p + (m + 1) - p = (p + m - p) + 1 by omega, List.range_succ, List.map_append, List.map_singleton, show p + (p + m - p) = p + m by omega]
    have tk1 : w.take (m + 1) = w.take m ++ [w.getD m 0] := by
      rw [List.take_succ_eq_append_getElem (by omega), List.getD_eq_getElem?_getD, List.getElem?_eq_getElem (by omega)]; rfl
    unfold F_X12_wordAt_L47 F_X12_wordAt_L87
    rw [wp_ite, if_neg (by decide), wp_ite, e1, if_neg (fun z => by have := (i3_le (by omega) (by omega)).mp z; omega), wp_bn, wp_cK, show mT μ 3 = some t from h1, wp_bn, wp_kRc hX, i3_add, wp_bn, wp_eq (t_charAt hX (by omega)), ec, wp_bn, xgP12_0 hE.1, i3_add, wp_bn, xl160 hE.1, inA_i3 (by omega), i3_toNat (by omega), tv]
    refine ⟨by omega, ?_⟩
    rw [wp_ite]
    by_cases ev : w.getD m 0 = tp (p + m)
    · rw [if_neg (fun z => z ev), i3_1]
      exact ih (m + 1) f (by omega) (by omega) (by rw [sl1, hsl, tk1, ev])
    · rw [if_pos ev, i3_1]
      obtain ⟨f, rfl⟩ : ∃ f', f = f' + 1 := ⟨f - 1, by omega⟩
      unfold F_X12_wordAt_L47 F_X12_wordAt_L95
      rw [wp_ite, if_pos rfl, wp_ite, if_pos rfl]
      refine hn fun z => ev ?_
      have g : (slc tp p e).getD m 0 = tp (p + m) := by
        unfold slc
        rw [List.getD_eq_getElem?_getD, List.getElem?_map, List.getElem?_range (by omega)]; rfl
      rw [← g, z]
theorem r_words {b p e : Nat} {tp : Nat → Int32} {L : Nat} {μ : Mem} {Q : Int32 → Mem → Prop} (hE : EnvR μ b tp L) (he : e ≤ L) (hpe : p ≤ e) : ∀ (ws : List (List Int32)) (pre : List Int32) (k f : Nat), tx 2 = pre ++ flW ws → (∀ w, w ∈ ws → ∀ c, c ∈ w → c ≠ 32) → ws.length < f → Q (q_wix ws k (slc tp p e)) μ → q_wp (F_X12_wordAt_L5 f (b + 38) (q_i3 p) (q_i3 e) (q_i3 k) (q_i3 pre.length)) μ Q := by
  obtain ⟨t, v, h1, hX⟩ := hE.2.1.tx (i := 2) (by omega)
  obtain ⟨l1, l2, _⟩ := tx_len (i := 2) (by omega)
  have hL := hE.2.2.2.1
  intro ws
  induction ws with
  | nil =>
    intro pre k f hs hw hf hQ
    obtain ⟨f, rfl⟩ : ∃ f', f = f' + 1 := ⟨f - 1, by omega⟩
    have hl : pre.length = kLn.getD 2 0 := by rw [← l1, hs]; simp [flW]
    unfold F_X12_wordAt_L5
    rw [wp_bn, wp_cK, show mT μ 3 = some t from h1, wp_bn, wp_kRc hX, wp_bn, wp_eq (t_length hX), wp_ite, if_pos ((i3_le (by omega) (by omega)).mpr (by omega)), wp_rt]
    exact hQ
  | cons w ws ih =>
    intro pre k f hs hw hf hQ
    obtain ⟨f, rfl⟩ : ∃ f', f = f' + 1 := ⟨f - 1, by omega⟩
    rw [List.length_cons] at hf
    have ef : flW (w :: ws) = w ++ 32 :: flW ws := by unfold flW; rw [List.flatMap_cons]; simp
    rw [ef] at hs
    have hl : pre.length + w.length < kLn.getD 2 0 := by rw [← l1, hs]; simp
    have hQ' : Q (if slc tp p e = w then q_i3 k else q_wix ws (k + 1) (slc tp p e)) μ := hQ
    have c8 : (32 : Int32).toInt8.toInt32 = 32 := by decide
    have at' : ∀ j, j ≤ w.length → (tx 2).getD (pre.length + j) 0 = (w ++ [32]).getD j 0 := fun j hj => by
      rw [hs]; simp only [List.getD_eq_getElem?_getD]
      rw [List.getElem?_append_right (by omega), show pre.length + j - pre.length = j by omega]
      by_cases e : j < w.length
      · rw [List.getElem?_append_left e, List.getElem?_append_left e]
      · have : j = w.length := by omega
        subst this
        rw [List.getElem?_append_right (Nat.le_refl _), List.getElem?_append_right (Nat.le_refl _)]; simp
    have next : slc tp p e ≠ w → q_wp (F_X12_wordAt_L5 f (b + 38) (q_i3 p) (q_i3 e) (q_i3 k + 1) (q_i3 (pre.length + w.length) + 1)) μ Q := by
      intro z
      rw [if_neg z] at hQ'
      rw [i3_1, i3_1]
      have := ih (pre ++ (w ++ [32])) (k + 1) f (by rw [hs]; simp) (fun w' h' => hw w' (by simp [h'])) (by omega) hQ'
      have el : (pre ++ (w ++ [32])).length = pre.length + w.length + 1 := by rw [List.length_append, List.length_append, List.length_singleton]; omega
      rw [el] at this
      exact this
    unfold F_X12_wordAt_L5 F_X12_wordAt_L42
    rw [wp_bn, wp_cK, show mT μ 3 = some t from h1, wp_bn, wp_kRc hX, wp_bn, wp_eq (t_length hX), wp_ite, if_neg (fun z => by have := (i3_le (by omega) (by omega)).mp z; omega), wp_bn, wp_cK, show mT μ 3 = some t from h1, wp_bn, wp_kRc hX, wp_bn]
    refine t_indexOf hX (by decide) (by decide) (by omega) fun r hr => ?_
    rw [c8] at hr
    have er : r = q_i3 (pre.length + w.length) := by
      have z32 : (tx 2).getD (pre.length + w.length) 0 = 32 := by rw [at' _ (Nat.le_refl _)]; simp
      have no : ∀ j, j < w.length → (tx 2).getD (pre.length + j) 0 ≠ 32 := fun j hj => by
        rw [at' j (by omega)]
        simp only [List.getD_eq_getElem?_getD]
        rw [List.getElem?_append_left hj, List.getElem?_eq_getElem hj]
        exact hw w (by simp) _ (List.getElem_mem _)
      rcases hr with ⟨_, h2⟩ | ⟨j, a1, a2, rfl, a4, a5⟩
      · exact absurd z32 (h2 _ (by omega) hl)
      · by_cases e1 : j < pre.length + w.length
        · have := no (j - pre.length) (by omega)
          rw [show pre.length + (j - pre.length) = j by omega] at this
          exact absurd a4 this
        · by_cases e2 : j = pre.length + w.length
          · rw [e2]
          · exact absurd z32 (a5 _ (by omega) (by omega))
    rw [er, i3_sub (by omega), i3_sub hpe, wp_ite]
    have ne0 : ∀ f', q_wp (F_X12_wordAt_L47 (F_X12_wordAt_L5 f) (f' + 1) (b + 38) (q_i3 p) (q_i3 e) (q_i3 k) (q_i3 pre.length) (q_i3 (pre.length + w.length)) 0 0) μ Q ↔ q_wp (F_X12_wordAt_L5 f (b + 38) (q_i3 p) (q_i3 e) (q_i3 k + 1) (q_i3 (pre.length + w.length) + 1)) μ Q := fun f' => by
      unfold F_X12_wordAt_L47 F_X12_wordAt_L95
      rw [wp_ite, if_pos rfl, wp_ite, if_pos rfl]
    by_cases hlen : pre.length + w.length - pre.length = e - p
    · rw [if_neg (fun z => z (by rw [hlen]))]
      exact r_cmp hE he pre (flW ws) w hs (by omega) next (fun z => by rw [if_pos z] at hQ'; exact hQ') w.length 0 FU (by omega) (by show _ < 100000; omega) (by rw [slc_nil (by omega)]; rfl)
    · rw [if_pos (fun z => hlen ((i3_eq (by omega) (by omega)).mp z))]
      refine (ne0 99999).mpr (next fun z => hlen ?_)
      rw [← z]; unfold slc; simp
theorem r_wordAt {b p e : Nat} {tp : Nat → Int32} {L : Nat} {μ : Mem} {Q : Int32 → Mem → Prop} (hE : EnvR μ b tp L) (he : e ≤ L) (hpe : p ≤ e) (hQ : Q (q_wix WDR 0 (slc tp p e)) μ) : q_wp (F_X12_wordAt (b + 38) (q_i3 p) (q_i3 e)) μ Q := by
  unfold F_X12_wordAt
  exact r_words hE he hpe WDR [] 0 FU (by rw [List.nil_append]; exact tx2) (by decide) (by show _ < 100000; decide) hQ
def nmR (tp : Nat → Int32) : Nat → Nat → Int32 → Int32
  | 0, _, v => v
  | f + 1, q, v => if isDg (tp q) = true then nmR tp f (q + 1) (if v ≤ 999999 then 10 * v + tp q - 48 else v) else v
def rnm (u v : Int32) : Prop := (u = v ∧ 0 ≤ v.toInt ∧ v.toInt ≤ 999999) ∨ (v = 1000000 ∧ ¬ u ≤ 999999)
theorem nm_rc {tp : Nat → Int32} : ∀ f q u v, rnm u v → rnm (nmR tp f q u) (nmC tp f q v)
  | 0, _, u, v, h => h
  | f + 1, q, u, v, h => by
    unfold nmR nmC
    by_cases hd : isDg (tp q) = true
    · rw [if_pos hd, if_pos hd]
      refine nm_rc f (q + 1) _ _ ?_
      have hd : ¬ tp q < 48 ∧ ¬ 57 < tp q := of_decide_eq_true hd
      have z48 : (48 : Int32).toInt = 48 := rfl
      have z57 : (57 : Int32).toInt = 57 := rfl
      have z10 : (10 : Int32).toInt = 10 := rfl
      have z9 : (999999 : Int32).toInt = 999999 := rfl
      have zM : (1000000 : Int32).toInt = 1000000 := rfl
      rw [Int32.lt_iff_toInt_lt, Int32.lt_iff_toInt_lt, z48, z57] at hd
      have sm : ∀ v : Int32, 0 ≤ v.toInt → v.toInt ≤ 1000000 → (v * 10 + tp q - 48).toInt = v.toInt * 10 + (tp q).toInt - 48 := by
        intro v h1 h2
        have e1 : (v * 10).toInt = v.toInt * 10 := by rw [Int32.toInt_mul, z10, Int.bmod_eq_of_le (by omega) (by omega)]
        have e2 : (v * 10 + tp q).toInt = v.toInt * 10 + (tp q).toInt := by rw [Int32.toInt_add, e1, Int.bmod_eq_of_le (by omega) (by omega)]
        rw [Int32.toInt_sub, e2, z48, Int.bmod_eq_of_le (by omega) (by omega)]
      rcases h with ⟨rfl, h1, h2⟩ | ⟨rfl, h2⟩
      · rw [if_pos (by rw [Int32.le_iff_toInt_le, z9]; exact h2), Int32.mul_comm 10 u]
        have es := sm u h1 (by omega)
        unfold capC
        by_cases hc : (1000000 : Int32) < u * 10 + tp q - 48
        · rw [if_pos hc]; rw [Int32.lt_iff_toInt_lt, zM] at hc
          exact Or.inr ⟨rfl, by rw [Int32.le_iff_toInt_le, z9]; omega⟩
        · rw [if_neg hc]; rw [Int32.lt_iff_toInt_lt, zM] at hc
          by_cases h9 : (u * 10 + tp q - 48).toInt ≤ 999999
          · exact Or.inl ⟨rfl, by omega, h9⟩
          · refine Or.inr ⟨Int32.toInt_inj.mp (by rw [zM]; omega), by rw [Int32.le_iff_toInt_le, z9]; omega⟩
      · rw [if_neg h2]
        have es := sm 1000000 (by rw [zM]; omega) (by rw [zM]; omega)
        refine Or.inr ⟨?_, h2⟩
        unfold capC
        rw [if_pos (by rw [Int32.lt_iff_toInt_lt, es, zM]; omega)]
    · rw [if_neg hd, if_neg hd]; exact h

def NXS : List Nat := [804, 805, 806, 807]
def rTok (μ : Mem) (b : Nat) (x : q_Lx) (q : Nat) : Prop := mI μ 804 (b + 38) = q_i3 (lxf x q) ∧ mI μ 805 (b + 38) = q_i3 (lxn x q) ∧ mI μ 806 (b + 38) = rkk (lxk x q) ∧ (lxk x q ≠ 17 → lxk x q ≠ -1 → mI μ 807 (b + 38) = rvv (lxk x q) (lxv x q))
theorem sR1 {μ : Mem} {b L t : Nat} {v : Int32} {tp : Nat → Int32} (hE : EnvR μ b tp L) (hS : disj [808, 2160] [t] = true) : Md [t] μ (sI μ t (b + 38) v) ∧ EnvR (sI μ t (b + 38) v) b tp L ∧ mI (sI μ t (b + 38) v) t (b + 38) = v := by
  have m : Md [t] μ (sI μ t (b + 38) v) := Md.sI (by rw [kk12 hE.1]; omega)
  exact ⟨m, hE.md m hS, by rw [mI_sI', if_pos ⟨rfl, rfl⟩]⟩
theorem r_skip {b L : Nat} {tp : Nat → Int32} {Q : Unit → Mem → Prop} : ∀ (d q f : Nat) (μ : Mem), EnvR μ b tp L → mI μ 804 (b + 38) = q_i3 q → q + d = L → d < f → (∀ ν, EnvR ν b tp L → Md [804] μ ν → mI ν 804 (b + 38) = q_i3 (rnL isBk tp L q) → q_wp (F_X12_next_L60 (b + 38)) ν Q) → q_wp (F_X12_next_L8 f (b + 38)) μ Q := by
  intro d
  induction d with
  | zero =>
    intro q f μ hE hq hd hf hQ
    obtain ⟨f, rfl⟩ : ∃ f', f = f' + 1 := ⟨f - 1, by omega⟩
    have hL := hE.2.2.2.1
    unfold F_X12_next_L8
    rw [wp_bn, xgI12 hE.1, show mI μ (64 * 12 + 36) (b + 38) = q_i3 q from hq, wp_bn, xgI12 hE.1, show mI μ (64 * 12 + 40) (b + 38) = q_i3 L from hE.2.2.1, wp_ite, if_pos ((i3_le (by omega) (by omega)).mpr (by omega))]
    exact hQ μ hE ((Md.rf μ).wk rfl) (by rw [rnL_st (fun z => by omega)]; exact hq)
  | succ d ih =>
    intro q f μ hE hq hd hf hQ
    obtain ⟨f, rfl⟩ : ∃ f', f = f' + 1 := ⟨f - 1, by omega⟩
    have hL := hE.2.2.2.1
    have hq' : mI μ (64 * 12 + 36) (b + 38) = q_i3 q := hq
    have tv := hE.2.2.2.2 q (by omega)
    unfold F_X12_next_L8 F_X12_next_L47
    have go : (tp q = 32 ∨ tp q = 10) → q_wp (bn (gI 12 36 (some (b + 38))) fun v22 => bn (wI 12 36 (some (b + 38)) (v22 + (1 : Int32))) fun _ => F_X12_next_L8 f (b + 38)) μ Q := by
      intro h
      rw [wp_bn, xgI12 hE.1, hq', i3_1, wp_bn, xwI12 hE.1]
      obtain ⟨m1, E1, h1⟩ := sR1 (t := 804) (v := q_i3 (q + 1)) hE rfl
      refine ih (q + 1) f _ E1 h1 (by omega) (by omega) fun ν E2 m2 h2 => hQ ν E2 ((m1.tr m2).wk rfl) ?_
      rw [rnL_go (by omega) (decide_eq_true h)]; exact h2
    rw [wp_bn, xgI12 hE.1, hq', wp_bn, xgI12 hE.1, show mI μ (64 * 12 + 40) (b + 38) = q_i3 L from hE.2.2.1, wp_ite, if_neg (fun z => by have := (i3_le (by omega) (by omega)).mp z; omega), wp_bn, xgP12_0 hE.1, wp_bn, xgI12 hE.1, hq', wp_bn, xl160 hE.1, inA_i3 (by omega), i3_toNat (by omega), tv]
    refine ⟨by omega, ?_⟩
    rw [wp_ite]
    by_cases h32 : tp q = 32
    · rw [if_pos h32]; exact go (Or.inl h32)
    rw [if_neg h32, wp_bn, xgP12_0 hE.1, wp_bn, xgI12 hE.1, hq', wp_bn, xl160 hE.1, inA_i3 (by omega), i3_toNat (by omega), tv]
    refine ⟨by omega, ?_⟩
    rw [wp_ite]
    by_cases h10 : tp q = 10
    · rw [if_neg (fun z => z h10)]; exact go (Or.inr h10)
    · rw [if_pos h10]
      exact hQ μ hE ((Md.rf μ).wk rfl) (by rw [rnL_st (fun _ => decide_eq_false (fun z => z.elim h32 h10))]; exact hq)
theorem r_letters {b L : Nat} {tp : Nat → Int32} {Q : Unit → Mem → Prop} : ∀ (d q f : Nat) (μ : Mem), EnvR μ b tp L → mI μ 805 (b + 38) = q_i3 q → q + d = L → d < f → (∀ ν, EnvR ν b tp L → Md [805] μ ν → mI ν 805 (b + 38) = q_i3 (rnL isLt tp L q) → q_wp (F_X12_next_L141 (b + 38)) ν Q) → q_wp (F_X12_next_L102 f (b + 38)) μ Q := by
  intro d
  induction d with
  | zero =>
    intro q f μ hE hq hd hf hQ
    obtain ⟨f, rfl⟩ : ∃ f', f = f' + 1 := ⟨f - 1, by omega⟩
    have hL := hE.2.2.2.1
    unfold F_X12_next_L102
    rw [wp_bn, xgI12 hE.1, show mI μ (64 * 12 + 37) (b + 38) = q_i3 q from hq, wp_bn, xgI12 hE.1, show mI μ (64 * 12 + 40) (b + 38) = q_i3 L from hE.2.2.1, wp_ite, if_pos ((i3_le (by omega) (by omega)).mpr (by omega))]
    exact hQ μ hE ((Md.rf μ).wk rfl) (by rw [rnL_st (fun z => by omega)]; exact hq)
  | succ d ih =>
    intro q f μ hE hq hd hf hQ
    obtain ⟨f, rfl⟩ : ∃ f', f = f' + 1 := ⟨f - 1, by omega⟩
    have hL := hE.2.2.2.1
    have hq' : mI μ (64 * 12 + 37) (b + 38) = q_i3 q := hq
    have tv := hE.2.2.2.2 q (by omega)
    unfold F_X12_next_L102
    rw [wp_bn, xgI12 hE.1, hq', wp_bn, xgI12 hE.1, show mI μ (64 * 12 + 40) (b + 38) = q_i3 L from hE.2.2.1, wp_ite, if_neg (fun z => by have := (i3_le (by omega) (by omega)).mp z; omega), wp_bn, xgP12_0 hE.1, wp_bn, xgI12 hE.1, hq', wp_bn, xl160 hE.1, inA_i3 (by omega), i3_toNat (by omega), tv]
    refine ⟨by omega, ?_⟩
    rw [wp_bn, wp_eq r_isLetter, wp_ite]
    by_cases h : isLt (tp q) = true
    · rw [if_pos h, if_neg (by decide), wp_bn, xgI12 hE.1, hq', i3_1, wp_bn, xwI12 hE.1]
      obtain ⟨m1, E1, h1⟩ := sR1 (t := 805) (v := q_i3 (q + 1)) hE rfl
      refine ih (q + 1) f _ E1 h1 (by omega) (by omega) fun ν E2 m2 h2 => hQ ν E2 ((m1.tr m2).wk rfl) ?_
      rw [rnL_go (by omega) h]; exact h2
    · rw [if_neg h, if_pos rfl]
      exact hQ μ hE ((Md.rf μ).wk rfl) (by rw [rnL_st (fun _ => by simpa using h)]; exact hq)
theorem r_digits {b L : Nat} {tp : Nat → Int32} {Q : Unit → Mem → Prop} : ∀ (d q f : Nat) (v : Int32) (μ : Mem), EnvR μ b tp L → mI μ 805 (b + 38) = q_i3 q → mI μ 807 (b + 38) = v → q + d = L → d < f → (∀ ν, EnvR ν b tp L → Md [805, 807] μ ν → mI ν 805 (b + 38) = q_i3 (rnL isDg tp L q) → mI ν 807 (b + 38) = nmR tp (L - q) q v → q_wp (F_X12_next_L268 (b + 38)) ν Q) → q_wp (F_X12_next_L189 f (b + 38)) μ Q := by
  intro d
  induction d with
  | zero =>
    intro q f v μ hE hq hv hd hf hQ
    obtain ⟨f, rfl⟩ : ∃ f', f = f' + 1 := ⟨f - 1, by omega⟩
    have hL := hE.2.2.2.1
    unfold F_X12_next_L189
    rw [wp_bn, xgI12 hE.1, show mI μ (64 * 12 + 37) (b + 38) = q_i3 q from hq, wp_bn, xgI12 hE.1, show mI μ (64 * 12 + 40) (b + 38) = q_i3 L from hE.2.2.1, wp_ite, if_pos ((i3_le (by omega) (by omega)).mpr (by omega))]
    exact hQ μ hE ((Md.rf μ).wk rfl) (by rw [rnL_st (fun z => by omega)]; exact hq) (by rw [show L - q = 0 by omega]; exact hv)
  | succ d ih =>
    intro q f v μ hE hq hv hd hf hQ
    obtain ⟨f, rfl⟩ : ∃ f', f = f' + 1 := ⟨f - 1, by omega⟩
    have hL := hE.2.2.2.1
    have hq' : mI μ (64 * 12 + 37) (b + 38) = q_i3 q := hq
    have hv' : mI μ (64 * 12 + 39) (b + 38) = v := hv
    have tv := hE.2.2.2.2 q (by omega)
    have eN : nmR tp (L - q) q v = if isDg (tp q) = true then nmR tp (L - (q + 1)) (q + 1) (if v ≤ 999999 then 10 * v + tp q - 48 else v) else v := by
      rw [show L - q = (L - (q + 1)) + 1 by omega]; rfl
    unfold F_X12_next_L189
    rw [wp_bn, xgI12 hE.1, hq', wp_bn, xgI12 hE.1, show mI μ (64 * 12 + 40) (b + 38) = q_i3 L from hE.2.2.1, wp_ite, if_neg (fun z => by have := (i3_le (by omega) (by omega)).mp z; omega), wp_bn, xgP12_0 hE.1, wp_bn, xgI12 hE.1, hq', wp_bn, xl160 hE.1, inA_i3 (by omega), i3_toNat (by omega), tv]
    refine ⟨by omega, ?_⟩
    rw [wp_bn, wp_eq r_isDigit, wp_ite]
    by_cases h : isDg (tp q) = true
    rotate_left
    · rw [if_neg h] at eN
      rw [if_neg h, if_pos rfl]
      exact hQ μ hE ((Md.rf μ).wk rfl) (by rw [rnL_st (fun _ => by simpa using h)]; exact hq) (by rw [eN]; exact hv)
    rw [if_pos h] at eN
    have L252 : ∀ y, y = (if v ≤ 999999 then 10 * v + tp q - 48 else v) → q_wp (F_X12_next_L252 (F_X12_next_L189 f) (b + 38) y (some (b + 38))) μ Q := by
      intro y ey
      unfold F_X12_next_L252
      rw [wp_bn, xwI12 hE.1]
      obtain ⟨m1, E1, h1⟩ := sR1 (t := 807) (v := y) hE rfl
      rw [wp_bn, xgI12 E1.1, show mI (sI μ (64 * 12 + 39) (b + 38) y) (64 * 12 + 37) (b + 38) = q_i3 q by rw [m1.1.i _ rfl]; exact hq, i3_1, wp_bn, xwI12 E1.1]
      obtain ⟨m2, E2, h2⟩ := sR1 (t := 805) (v := q_i3 (q + 1)) E1 rfl
      refine ih (q + 1) f y _ E2 h2 (by rw [m2.1.i 807 rfl]; exact h1) (by omega) (by omega) fun ν E3 m3 h3 h4 => hQ ν E3 (((m1.tr m2).tr m3).wk rfl) ?_ ?_
      · rw [rnL_go (by omega) h]; exact h3
      · rw [eN, ← ey]; exact h4
    rw [if_pos h, if_neg (by decide), wp_bn, xgI12 hE.1, hv', wp_ite]
    by_cases h9 : v ≤ 999999
    · rw [if_pos h9, wp_bn, xgI12 hE.1, hv', wp_bn, xgP12_0 hE.1, wp_bn, xgI12 hE.1, hq', wp_bn, xl160 hE.1, inA_i3 (by omega), i3_toNat (by omega), tv]
      exact ⟨by omega, L252 _ (by rw [if_pos h9])⟩
    · rw [if_neg h9, wp_bn, xgI12 hE.1, hv']
      exact L252 _ (by rw [if_neg h9])
theorem rkk_word {w : Int32} {j : Nat} (hj : j < 16) (h : w = q_i3 j) : rkk w = 2 := by
  have key : ∀ j : Fin 16, rkk (q_i3 j.1) = 2 := by decide
  rw [h]; exact key ⟨j, hj⟩
theorem rkk_sign {c : Int32} (h : q_sgn c = true) : rkk c = 3 ∧ ∀ n, rvv c n = c := by
  have key : ∀ y, y ∈ tx 1 → rkk y = 3 ∧ y ≠ 16 ∧ ¬ y < 6 ∧ ¬ y < 12 ∧ ¬ y < 16 := by decide
  obtain ⟨h1, h2, h3, h4, h5⟩ := key c (List.contains_iff_mem.mp h)
  exact ⟨h1, fun n => by unfold rvv; rw [if_neg h2, if_neg h3, if_neg h4, if_neg h5]⟩
theorem r_next {b L q : Nat} {tp : Nat → Int32} {μ : Mem} (hE : EnvR μ b tp L) (hq : q ≤ L) (h805 : mI μ 805 (b + 38) = q_i3 q) : q_wp (F_X12_next (b + 38)) μ (fun _ ν => Md NXS μ ν ∧ rTok ν b (lexOf tp L) q) := by
  have hL := hE.2.2.2.1
  unfold F_X12_next
  rw [wp_bn, xgI12 hE.1, show mI μ (64 * 12 + 37) (b + 38) = q_i3 q from h805, wp_bn, xwI12 hE.1]
  obtain ⟨m0, E0, h0⟩ := sR1 (t := 804) (v := q_i3 q) hE rfl
  refine r_skip (L - q) q FU _ E0 h0 (by omega) (by show _ < 100000; omega) fun μ1 E1 m1 a1 => ?_
  obtain ⟨p, ep⟩ : ∃ p, p = rnL isBk tp L q := ⟨_, rfl⟩
  have eK : lxk (lexOf tp L) q = lkC' tp L p := by rw [ep]; rfl
  have eF : lxf (lexOf tp L) q = p := by rw [ep]; rfl
  have eN : lxn (lexOf tp L) q = lnC tp L p := by rw [ep]; rfl
  have eV : lxv (lexOf tp L) q = nmC tp (L - p) p 0 := by rw [ep]; rfl
  have hp := (rnL_le (p := isBk) (tp := tp) hq).2
  rw [← ep] at a1 hp
  unfold rTok
  rw [eK, eF, eN, eV]
  unfold F_X12_next_L60
  have a1' : mI μ1 (64 * 12 + 36) (b + 38) = q_i3 p := a1
  rw [wp_bn, xgI12 E1.1, a1', wp_bn, xwI12 E1.1]
  obtain ⟨m2, E2, h2⟩ := sR1 (t := 805) (v := q_i3 p) E1 rfl
  show q_wp _ (sI μ1 805 (b + 38) (q_i3 p)) _
  obtain ⟨μ2, e2⟩ : ∃ μ2, μ2 = sI μ1 805 (b + 38) (q_i3 p) := ⟨_, rfl⟩
  rw [← e2] at m2 E2 h2 ⊢
  have a2 : mI μ2 (64 * 12 + 36) (b + 38) = q_i3 p := by rw [m2.1.i _ rfl]; exact a1
  have m12 := (m0.tr m1).tr m2
  rw [wp_bn, xgI12 E2.1, a2, wp_bn, xgI12 E2.1, show mI μ2 (64 * 12 + 40) (b + 38) = q_i3 L from E2.2.2.1, wp_ite]
  by_cases hpL : p < L
  rotate_left
  · have ek : lkC' tp L p = 17 := by unfold lkC'; rw [if_pos (by omega)]
    have en : lnC tp L p = p := by unfold lnC; rw [if_pos (by omega)]
    rw [ek, en, if_neg (fun z => z (by rw [show p = L by omega])), wp_bn, xwI12 E2.1, wp_rt]
    obtain ⟨m3, E3, h3⟩ := sR1 (t := 806) (v := 0) E2 rfl
    exact ⟨(m12.tr m3).wk rfl, by rw [m3.1.i 804 rfl]; exact a2, by rw [m3.1.i 805 rfl]; exact h2, by rw [h3]; decide, fun z => absurd rfl z⟩
  have tv := E2.2.2.2.2 p hpL
  rw [if_pos (fun z => by have := (i3_eq (by omega) (by omega)).mp z; omega), wp_bn, xgP12_0 E2.1, wp_bn, xgI12 E2.1, a2, wp_bn, xl160 E2.1, inA_i3 (by omega), i3_toNat (by omega), tv]
  refine ⟨by omega, ?_⟩
  rw [wp_bn, wp_eq r_isLetter, wp_ite]
  by_cases hl : isLt (tp p) = true
  · have ek : lkC' tp L p = q_wix WDC 0 (slc tp p (rnL isLt tp L p)) := by unfold lkC'; rw [if_neg (by omega), if_pos hl]
    have en : lnC tp L p = rnL isLt tp L p := by unfold lnC; rw [if_neg (by omega), if_pos hl]
    have re := rnL_le (p := isLt) (tp := tp) hp
    rw [ek, en, if_pos hl, if_neg (by decide)]
    refine r_letters (L - p) p FU μ2 E2 h2 (by omega) (by show _ < 100000; omega) fun μ3 E3 m3 a3 => ?_
    unfold F_X12_next_L141
    have p3 : mI μ3 (64 * 12 + 36) (b + 38) = q_i3 p := by rw [m3.1.i _ rfl]; exact a2
    rw [wp_bn, xgI12 E3.1, p3, wp_bn, xgI12 E3.1, show mI μ3 (64 * 12 + 37) (b + 38) = q_i3 (rnL isLt tp L p) from a3, wp_bn, xpR12 E3.1, wp_bn]
    refine r_wordAt E3 re.2 re.1 ?_
    obtain ⟨g1, g2⟩ := wix_rc (slc tp p (rnL isLt tp L p))
    have wr := wix_r WDC 0 (slc tp p (rnL isLt tp L p))
    obtain ⟨s, es⟩ : ∃ s, s = slc tp p (rnL isLt tp L p) := ⟨_, rfl⟩
    rw [← es] at g1 g2 wr ⊢
    rw [wp_bn, xwI12 E3.1]
    obtain ⟨m4, E4, h4⟩ := sR1 (t := 807) (v := q_wix WDR 0 s) E3 rfl
    show q_wp _ (sI μ3 807 (b + 38) (q_wix WDR 0 s)) _
    obtain ⟨μ4, e4⟩ : ∃ μ4, μ4 = sI μ3 807 (b + 38) (q_wix WDR 0 s) := ⟨_, rfl⟩
    rw [← e4] at m4 E4 h4 ⊢
    have m34 := m3.tr m4
    rw [wp_bn, xgI12 E4.1, show mI μ4 (64 * 12 + 39) (b + 38) = q_wix WDR 0 s from h4, wp_ite]
    unfold F_X12_next_L171
    by_cases hb : q_wix WDC 0 s = -1
    · rw [if_neg (fun z => z (g1 hb)), wp_bn, xwI12 E4.1, wp_rt, hb]
      obtain ⟨m5, E5, h5⟩ := sR1 (t := 806) (v := 4) E4 rfl
      have m35 := m34.tr m5
      exact ⟨(m12.tr m35).wk rfl, by rw [m35.1.i 804 rfl]; exact a2, by rw [(m4.tr m5).1.i 805 rfl]; exact a3, by rw [h5]; decide, fun _ z => absurd rfl z⟩
    · obtain ⟨g3, g4⟩ := g2 hb
      rw [if_pos g3, wp_bn, xwI12 E4.1, wp_rt]
      obtain ⟨m5, E5, h5⟩ := sR1 (t := 806) (v := 2) E4 rfl
      have m35 := m34.tr m5
      obtain ⟨j, _, hj, ej⟩ := wr.resolve_left hb
      exact ⟨(m12.tr m35).wk rfl, by rw [m35.1.i 804 rfl]; exact a2, by rw [(m4.tr m5).1.i 805 rfl]; exact a3, by rw [h5, rkk_word (j := j) hj ej], fun _ _ => by rw [m5.1.i 807 rfl, h4]; exact g4 _⟩
  rw [if_neg hl, if_pos rfl, wp_bn, wp_eq r_isDigit, wp_ite]
  by_cases hd : isDg (tp p) = true
  · have ek : lkC' tp L p = if nmC tp (L - p) p 0 ≤ 999999 then 16 else -1 := by unfold lkC'; rw [if_neg (by omega), if_neg hl, if_pos hd]
    have en : lnC tp L p = rnL isDg tp L p := by unfold lnC; rw [if_neg (by omega), if_neg hl, if_pos hd]
    rw [ek, en, if_pos hd, if_neg (by decide), wp_bn, xwI12 E2.1]
    obtain ⟨m3, E3, h3⟩ := sR1 (t := 807) (v := 0) E2 rfl
    refine r_digits (L - p) p FU 0 _ E3 (by rw [m3.1.i 805 rfl]; exact h2) h3 (by omega) (by show _ < 100000; omega) fun μ4 E4 m4 a4 v4 => ?_
    have rel := nm_rc (tp := tp) (L - p) p 0 0 (Or.inl ⟨rfl, by decide, by decide⟩)
    unfold F_X12_next_L268 F_X12_next_L283
    rw [wp_bn, xgI12 E4.1, show mI μ4 (64 * 12 + 39) (b + 38) = nmR tp (L - p) p 0 from v4, wp_ite]
    have z9 : (999999 : Int32).toInt = 999999 := rfl
    by_cases hb : nmC tp (L - p) p 0 ≤ 999999
    · have eq : nmR tp (L - p) p 0 = nmC tp (L - p) p 0 := by
        rcases rel with h | h
        · exact h.1
        · rw [h.1] at hb; exact absurd hb (by decide)
      rw [if_pos hb, eq, if_pos hb, wp_bn, xwI12 E4.1, wp_rt]
      obtain ⟨m5, E5, h5⟩ := sR1 (t := 806) (v := 1) E4 rfl
      have m35 := (m3.tr m4).tr m5
      exact ⟨(m12.tr m35).wk rfl, by rw [m35.1.i 804 rfl]; exact a2, by rw [m5.1.i 805 rfl]; exact a4, by rw [h5]; decide, fun _ _ => by rw [m5.1.i 807 rfl, v4, eq]; unfold rvv; rw [if_pos rfl]⟩
    · have ne : ¬ nmR tp (L - p) p 0 ≤ 999999 := by
        rcases rel with h | h
        · rw [h.1]; exact hb
        · exact h.2
      rw [if_neg hb, if_neg ne, wp_bn, xwI12 E4.1, wp_rt]
      obtain ⟨m5, E5, h5⟩ := sR1 (t := 806) (v := 4) E4 rfl
      have m35 := (m3.tr m4).tr m5
      exact ⟨(m12.tr m35).wk rfl, by rw [m35.1.i 804 rfl]; exact a2, by rw [m5.1.i 805 rfl]; exact a4, by rw [h5]; decide, fun _ z => absurd rfl z⟩
  have en : lnC tp L p = p + 1 := by unfold lnC; rw [if_neg (by omega), if_neg hl, if_neg hd]
  rw [en, if_neg hd, if_pos rfl, wp_bn, xgI12 E2.1, show mI μ2 (64 * 12 + 37) (b + 38) = q_i3 p from h2, i3_1, wp_bn, xwI12 E2.1]
  obtain ⟨m3, E3, h3⟩ := sR1 (t := 805) (v := q_i3 (p + 1)) E2 rfl
  rw [wp_bn, xwI12 E3.1]
  obtain ⟨m4, E4, h4⟩ := sR1 (t := 807) (v := tp p) E3 rfl
  show q_wp _ (sI (sI μ2 805 (b + 38) (q_i3 (p + 1))) 807 (b + 38) (tp p)) _
  obtain ⟨μ4, e4⟩ : ∃ μ4, μ4 = sI (sI μ2 805 (b + 38) (q_i3 (p + 1))) 807 (b + 38) (tp p) := ⟨_, rfl⟩
  rw [← e4] at m4 E4 h4 ⊢
  have m34 := m3.tr m4
  obtain ⟨t, v, h1, hX⟩ := E4.2.1.tx (i := 1) (by omega)
  rw [wp_bn, wp_cK, show mT μ4 2 = some t from h1, wp_bn, wp_kRc hX, wp_bn]
  refine t_sign hX fun r hr => ?_
  rw [wp_ite]
  have p4 : mI μ4 805 (b + 38) = q_i3 (p + 1) := by rw [m4.1.i 805 rfl]; exact h3
  by_cases hs : q_sgn (tp p) = true
  · have ek : lkC' tp L p = tp p := by unfold lkC'; rw [if_neg (by omega), if_neg hl, if_neg hd, if_pos hs]
    obtain ⟨k1, k2⟩ := rkk_sign hs
    rw [ek, if_neg (fun z => by rw [hr.mp z] at hs; cases hs), wp_bn, xwI12 E4.1, wp_rt]
    obtain ⟨m5, E5, h5⟩ := sR1 (t := 806) (v := 3) E4 rfl
    have m35 := m34.tr m5
    exact ⟨(m12.tr m35).wk rfl, by rw [m35.1.i 804 rfl]; exact a2, by rw [m5.1.i 805 rfl]; exact p4, by rw [h5, k1], fun _ _ => by rw [m5.1.i 807 rfl, h4, k2]⟩
  · have ek : lkC' tp L p = -1 := by unfold lkC'; rw [if_neg (by omega), if_neg hl, if_neg hd, if_neg hs]
    rw [ek, if_pos (hr.mpr (by simpa using hs)), wp_bn, xwI12 E4.1, wp_rt]
    obtain ⟨m5, E5, h5⟩ := sR1 (t := 806) (v := 4) E4 rfl
    have m35 := m34.tr m5
    exact ⟨(m12.tr m35).wk rfl, by rw [m35.1.i 804 rfl]; exact a2, by rw [m5.1.i 805 rfl]; exact p4, by rw [h5]; decide, fun _ z => absurd rfl z⟩

def PRS : List Nat := [804, 805, 806, 807, 770, 771, 810, 811, 2192, 2200]
def Fp (b k : Nat) (μ ν : Mem) : Prop := Md PRS μ ν ∧ ∀ i, i < 60 * k → aI ν 192 (b + 43) i = aI μ 192 (b + 43) i ∧ aI ν 200 (b + 44) i = aI μ 200 (b + 44) i
theorem Fp.rf (b k : Nat) (μ : Mem) : Fp b k μ μ := ⟨(Md.rf μ).wk rfl, fun _ _ => ⟨rfl, rfl⟩⟩
theorem Fp.tr {b k : Nat} {μ ν ρ : Mem} (h : Fp b k μ ν) (g : Fp b k ν ρ) : Fp b k μ ρ := ⟨(h.1.tr g.1).wk rfl, fun i hi => ⟨(g.2 i hi).1.trans (h.2 i hi).1, (g.2 i hi).2.trans (h.2 i hi).2⟩⟩
theorem Fp.of {S : List Nat} {b k : Nat} {μ ν : Mem} (m : Md S μ ν) (h1 : subL S PRS = true) (h2 : disj [2192, 2200] S = true) : Fp b k μ ν := ⟨m.wk h1, fun i _ => ⟨by rw [m.1.ai 192 (disj_nc h2 (by decide))], by rw [m.1.ai 200 (disj_nc h2 (by decide))]⟩⟩
theorem EnvR.fp {b k L : Nat} {tp : Nat → Int32} {μ ν : Mem} (h : EnvR μ b tp L) (f : Fp b k μ ν) : EnvR ν b tp L := h.md f.1 rfl
def RFl (μ : Mem) (b : Nat) (e : q_Er) : Prop := mI μ 770 (b + 38) = e.1 ∧ mI μ 771 (b + 38) = q_i3 e.2
def RPd (μ : Mem) (b : Nat) (e : q_Er) : Prop := e.1 = 1 ∧ mI μ 806 (b + 38) = 4 ∧ mI μ 804 (b + 38) = q_i3 e.2 ∧ mI μ 770 (b + 38) = 0
def rS (μ : Mem) (b : Nat) (x : q_Lx) (L k q t o : Nat) (ks : List q_Tok) : Prop := rTok μ b x q ∧ lxk x q ≠ -1 ∧ q ≤ L ∧ mI μ 809 (b + 38) = q_i3 k ∧ mI μ 810 (b + 38) = q_i3 t ∧ mI μ 811 (b + 38) = q_i3 o ∧ ks.length = t ∧ t ≤ 60 ∧ o ≤ 12 ∧ k < 30 ∧ (∀ i, i < t → aI μ 192 (b + 43) (60 * k + i) = (ks.getD i (0, 0)).1 ∧ aI μ 200 (b + 44) (60 * k + i) = (ks.getD i (0, 0)).2) ∧ mI μ 770 (b + 38) = 0 ∧ mI μ 771 (b + 38) = 0
def rEnd (b k : Nat) (e : q_Er) (μ : Mem) (v : Int32) (ν : Mem) : Prop := Fp b k μ ν ∧ ((v = 0 ∧ RFl ν b e) ∨ (v = 1 ∧ RPd ν b e))
def rPost (b : Nat) (x : q_Lx) (L k o : Nat) (r : q_Res) (ks : List q_Tok) (μ : Mem) (v : Int32) (ν : Mem) : Prop := Fp b k μ ν ∧ (∀ u, r = .ok u → v = 1 ∧ rS ν b x L k u.1 u.2.1 o (ks ++ u.2.2.2.1)) ∧ ∀ e, r = .error e → (v = 0 ∧ RFl ν b e) ∨ (v = 1 ∧ RPd ν b e)
def Pnd (b : Nat) (tp : Nat → Int32) (L k : Nat) (P : M Int32) : Prop := ∀ ν e, EnvR ν b tp L → RPd ν b e → q_wp P ν (rEnd b k e ν)
theorem r_fails {μ : Mem} {b p : Nat} {k : Int32} (hK : K0 μ b) (h0 : mI μ 770 (b + 38) = 0) (hp : mI μ 804 (b + 38) = q_i3 p) : q_wp (F_X12_fails (b + 38) k) μ (fun v ν => v = 0 ∧ Md [770, 771] μ ν ∧ RFl ν b (if mI μ 806 (b + 38) = 4 then 1 else k, p)) := by
  have k1 : mK μ (b + 38) ≠ 0 := by rw [kk12 hK]; omega
  have L21 : ∀ y : Int32, q_wp (F_X12_fails_L21 (b + 38) y (some (b + 38))) μ (fun v ν => v = 0 ∧ Md [770, 771] μ ν ∧ RFl ν b (y, p)) := by
    intro y
    unfold F_X12_fails_L21
    have e4 : mI μ 804 (b + 38) = q_i3 p := hp
    simp (maxSteps := 2000000) (disch := first | assumption | omega | (simp only [K0_sI, K0_sL, K0_tI, K0_tL, K0_nE]; assumption)) only [wp_bn, xgI11, xgL11, xwI11, xpR11, xgI4, xgL4, xwI4, xpR4, xgI7, xgL7, xwI7, xpR7, xgI12, xgL12, xwI12, xpR12, xgP11_0, xgP11_1, xgP11_2, xgP11_3, xgP11_4, xgP11_5, xgP11_6, xgP11_7, xgP4_0, xl115, xs115, xgP4_9, xl120, xs120, xgP7_0, xgP7_1, xl136, xs136, xgP7_2, xl144, xs144, xgP12_0, xl160, xs160, xgP12_4, xl168, xs168, xgP12_5, xl176, xs176, xgP12_6, xl184, xs184, xgP12_7, xl192, xs192, xgP12_8, xl200, xs200, xgP12_11, xl209, xs209, xgP12_12, xl218, xs218, xgP12_13, xl226, xs226, xgP12_14, xl232, xs232, xgP12_15, xl241, xs241, xgP12_16, xl248, xs248, xgP12_17, xl256, xs256, xgP12_18, xl264, xs264, xgP12_19, xl274, xs274, xgP12_20, xl280, xs280, xgP12_22, xl288, xs288, xgP12_25, xl296, xs296, xgP12_26, xl305, xs305, xgP12_27, xl312, xs312, xgP12_28, xl321, xs321, xgP12_29, xl328, xs328, xgP12_31, xl336, xs336, xgP12_33, xl344, xs344, xgP12_46, xl352, xs352, xgP12_47, xl360, xs360, xgP2_0, xpL2_0, xgP2_1, xpL2_1, xgP2_2, xpL2_2, xgI2, xwZ2, xpR2, xmo, xpL_5, xpL_33, xpL_34, xpL_35, xpL_36, xpL_37, Nat.reduceMul, Nat.reduceAdd, wp_rz]
    refine ⟨by simp, by simp, ((Md.sI (f := 770) k1).tr (Md.sI (f := 771) k1)).wk rfl, ?_, ?_⟩
    · rw [mI_sI', if_neg (fun z => absurd z.1 (by omega)), mI_sI', if_pos ⟨rfl, rfl⟩]
    · rw [mI_sI', if_pos ⟨rfl, rfl⟩, mI_sI', if_neg (fun z => absurd z.1 (by omega))]; exact e4
  unfold F_X12_fails
  rw [wp_bn, xgI12 hK, show mI μ (64 * 12 + 2) (b + 38) = 0 from h0, wp_ite, if_neg (fun z => z rfl), wp_bn, xgI12 hK, wp_ite]
  by_cases h : mI μ 806 (b + 38) = 4
  · rw [if_neg (fun z => z h), if_pos h]; exact L21 1
  · rw [if_pos h, if_neg h]; exact L21 k
theorem rkk4 {c : Int32} (h : c ≠ -1) : rkk c ≠ 4 := by
  unfold rkk
  rw [if_neg h]
  split
  · decide
  split
  · decide
  split <;> decide
theorem rkk3 {c : Int32} (h : rkk c = 3) : c ≠ 17 ∧ c ≠ -1 ∧ ∀ n, rvv c n = c := by
  unfold rkk at h
  split at h
  · exact absurd h (by decide)
  split at h
  · exact absurd h (by decide)
  split at h
  · exact absurd h (by decide)
  split at h
  · exact absurd h (by decide)
  rename_i h1 h2 h3 h4
  have z16 : (16 : Int32).toInt = 16 := rfl
  have z12 : (12 : Int32).toInt = 12 := rfl
  have z6 : (6 : Int32).toInt = 6 := rfl
  rw [Int32.lt_iff_toInt_lt, z16] at h4
  refine ⟨h1, h3, fun n => ?_⟩
  unfold rvv
  rw [if_neg h2, if_neg (by rw [Int32.lt_iff_toInt_lt, z6]; omega), if_neg (by rw [Int32.lt_iff_toInt_lt, z12]; omega), if_neg (by rw [Int32.lt_iff_toInt_lt, z16]; omega)]
theorem r_isSign {μ : Mem} {b q : Nat} {x : q_Lx} {c : Int32} (hK : K0 μ b) (h : rTok μ b x q) (hc : rkk c = 3) : F_X12_isSign (b + 38) c μ = some (if lxk x q = c then 1 else 0, μ) := by
  apply eq_wp
  unfold F_X12_isSign
  obtain ⟨h1, h2, h3, h4⟩ := h
  rw [wp_bn, xgI12 hK, show mI μ (64 * 12 + 38) (b + 38) = rkk (lxk x q) from h3, wp_ite]
  by_cases e3 : rkk (lxk x q) = 3
  · obtain ⟨n1, n2, n3⟩ := rkk3 e3
    rw [if_neg (fun z => z e3), wp_bn, xgI12 hK, show mI μ (64 * 12 + 39) (b + 38) = rvv (lxk x q) (lxv x q) from h4 n1 n2, n3, wp_ite]
    by_cases e : lxk x q = c
    · rw [if_neg (fun z => z e), wp_rz, if_pos e]; exact ⟨Or.inr rfl, rfl, rfl⟩
    · rw [if_pos e, wp_rz, if_neg e]; exact ⟨Or.inl rfl, rfl, rfl⟩
  · rw [if_pos e3, wp_rz, if_neg (fun z => e3 (by rw [z]; exact hc))]; exact ⟨Or.inl rfl, rfl, rfl⟩
theorem r_isSignP {μ : Mem} {b : Nat} {c : Int32} (hK : K0 μ b) (h : mI μ 806 (b + 38) = 4) : F_X12_isSign (b + 38) c μ = some (0, μ) := by
  apply eq_wp
  unfold F_X12_isSign
  rw [wp_bn, xgI12 hK, show mI μ (64 * 12 + 38) (b + 38) = 4 from h, wp_ite, if_pos (by decide), wp_rz]; exact ⟨Or.inl rfl, rfl, rfl⟩
theorem r_failS {b L k q t o : Nat} {tp : Nat → Int32} {x : q_Lx} {μ : Mem} {c : Int32} {ks : List q_Tok} (hE : EnvR μ b tp L) (h : rS μ b x L k q t o ks) : q_wp (F_X12_fails (b + 38) c) μ (fun v ν => v = 0 ∧ Fp b k μ ν ∧ RFl ν b (c, lxf x q)) := by
  obtain ⟨⟨t1, t2, t3, t4⟩, hne, hq, a1, a2, a3, a4, a5, a6, a7, a8, a9⟩ := h
  refine q_wp_mono (r_fails hE.1 a9.1 t1) ?_
  rintro v ν ⟨rfl, m, f⟩
  rw [if_neg (by rw [t3]; exact rkk4 hne)] at f
  exact ⟨rfl, Fp.of m rfl rfl, f⟩
theorem r_failP {b L k : Nat} {tp : Nat → Int32} {μ : Mem} {c : Int32} {e : q_Er} (hE : EnvR μ b tp L) (h : RPd μ b e) : q_wp (F_X12_fails (b + 38) c) μ (fun v ν => v = 0 ∧ Fp b k μ ν ∧ RFl ν b e) := by
  obtain ⟨h1, h2, h3, h4⟩ := h
  refine q_wp_mono (r_fails hE.1 h4 h3) ?_
  rintro v ν ⟨rfl, m, f⟩
  rw [if_pos h2, ← h1] at f
  exact ⟨rfl, Fp.of m rfl rfl, f⟩
theorem r_tkn {b L k q t o : Nat} {tp : Nat → Int32} {μ : Mem} {ks : List q_Tok} (hE : EnvR μ b tp L) (h17 : lxk (lexOf tp L) q ≠ 17) (h : rS μ b (lexOf tp L) L k q t o ks) : q_wp (F_X12_take (b + 38)) μ (fun v ν => Fp b k μ ν ∧ (∀ q1, tkE (lexOf tp L) t q = .ok q1 → v = 1 ∧ rS ν b (lexOf tp L) L k q1 (t + 1) o (ks ++ [tkq (lexOf tp L) q])) ∧ ∀ e, tkE (lexOf tp L) t q = .error e → (v = 0 ∧ RFl ν b e) ∨ (v = 1 ∧ RPd ν b e)) := by
  obtain ⟨⟨t1, t2, t3, t4⟩, hne, hq, a1, a2, a3, a4, a5, a6, a7, a8, a9⟩ := id h
  have hx := (lex_ok tp L).2 q hq
  have hK := hE.1
  unfold F_X12_take tkE
  rw [wp_bn, xgI12 hE.1, show mI μ (64 * 12 + 42) (b + 38) = q_i3 t from a2, wp_ite]
  have heq : q_i3 t = 60 ↔ t = 60 := i3_eq (b := 60) (by omega) (by omega)
  by_cases h60 : t = 60
  · rw [if_neg (fun z => z (heq.mpr h60)), if_pos (by omega), wp_bn, xpR12 hE.1, wp_bn]
    refine q_wp_mono (r_failS (c := 4) hE h) ?_
    rintro v ν ⟨rfl, m, f⟩
    rw [wp_rz]
    exact ⟨Or.inl rfl, m, fun q1 z => (by cases z), fun e z => (by cases z; exact Or.inl ⟨rfl, f⟩)⟩
  rw [if_pos (fun z => h60 (heq.mp z)), if_neg (by omega)]
  have b1 : 60 * k + t < 1800 := by omega
  have e41 : mI μ 809 (b + 38) = q_i3 k := a1
  have e42 : mI μ 810 (b + 38) = q_i3 t := a2
  have e38 : mI μ 806 (b + 38) = rkk (lxk (lexOf tp L) q) := t3
  obtain ⟨vv, ev⟩ : ∃ vv, vv = mI μ 807 (b + 38) := ⟨_, rfl⟩
  simp (maxSteps := 2000000) (disch := first | assumption | omega | (simp only [K0_sI, K0_sL, K0_tI, K0_tL, K0_nE]; assumption)) only [wp_bn, xgI11, xgL11, xwI11, xpR11, xgI4, xgL4, xwI4, xpR4, xgI7, xgL7, xwI7, xpR7, xgI12, xgL12, xwI12, xpR12, xgP11_0, xgP11_1, xgP11_2, xgP11_3, xgP11_4, xgP11_5, xgP11_6, xgP11_7, xgP4_0, xl115, xs115, xgP4_9, xl120, xs120, xgP7_0, xgP7_1, xl136, xs136, xgP7_2, xl144, xs144, xgP12_0, xl160, xs160, xgP12_4, xl168, xs168, xgP12_5, xl176, xs176, xgP12_6, xl184, xs184, xgP12_7, xl192, xs192, xgP12_8, xl200, xs200, xgP12_11, xl209, xs209, xgP12_12, xl218, xs218, xgP12_13, xl226, xs226, xgP12_14, xl232, xs232, xgP12_15, xl241, xs241, xgP12_16, xl248, xs248, xgP12_17, xl256, xs256, xgP12_18, xl264, xs264, xgP12_19, xl274, xs274, xgP12_20, xl280, xs280, xgP12_22, xl288, xs288, xgP12_25, xl296, xs296, xgP12_26, xl305, xs305, xgP12_27, xl312, xs312, xgP12_28, xl321, xs321, xgP12_29, xl328, xs328, xgP12_31, xl336, xs336, xgP12_33, xl344, xs344, xgP12_46, xl352, xs352, xgP12_47, xl360, xs360, xgP2_0, xpL2_0, xgP2_1, xpL2_1, xgP2_2, xpL2_2, xgI2, xwZ2, xpR2, xmo, xpL_5, xpL_33, xpL_34, xpL_35, xpL_36, xpL_37, i3m2, i3m4, i3m5, i3m6, i3m7, i3m12, i3m60, i3m72, i3m1600, i3r6, i3p1, i3p2, i3p3, i3p4, i3p5, i3p6, i3p7, i3p8, i3p9, i3p20, i3_add, i3_mul, i3_toNat, inA_i3, i3_lt, i3_le, i3_eq, Nat.reduceMul, Nat.reduceAdd, mI_tI, e41, e42, e38, ← ev, b1, true_and]
  have k43 : mK μ (b + 43) ≠ 0 := by rw [hE.1.k 43 192 (by decide)]; omega
  have k44 : mK μ (b + 44) ≠ 0 := by rw [hE.1.k 44 200 (by decide)]; omega
  have k38 : mK μ (b + 38) ≠ 0 := by rw [kk12 hE.1]; omega
  have m1 : Md [2192, 2200, 810] μ (sI (tI (tI μ 192 (b + 43) (60 * k + t) (rkk (lxk (lexOf tp L) q))) 200 (b + 44) (60 * k + t) vv) 810 (b + 38) (q_i3 (t + 1))) := (((Md.tI (k := 192) k43).tr (Md.tI (k := 200) (show mK (tI μ 192 (b + 43) (60 * k + t) (rkk (lxk (lexOf tp L) q))) (b + 44) ≠ 0 from k44))).tr (Md.sI (f := 810) (show mK (tI (tI μ 192 (b + 43) (60 * k + t) (rkk (lxk (lexOf tp L) q))) 200 (b + 44) (60 * k + t) vv) (b + 38) ≠ 0 from k38))).wk rfl
  obtain ⟨μ1, e1⟩ : ∃ μ1, μ1 = sI (tI (tI μ 192 (b + 43) (60 * k + t) (rkk (lxk (lexOf tp L) q))) 200 (b + 44) (60 * k + t) vv) 810 (b + 38) (q_i3 (t + 1)) := ⟨_, rfl⟩
  have w192 : ∀ i, aI μ1 192 (b + 43) i = if i = 60 * k + t then rkk (lxk (lexOf tp L) q) else aI μ 192 (b + 43) i := fun i => by
    rw [e1, aI_sI, aI_tI', if_neg (fun z => absurd z.1 (by omega)), aI_tI']
    by_cases e : i = 60 * k + t
    · rw [if_pos e, if_pos ⟨rfl, rfl, e⟩]
    · rw [if_neg e, if_neg (fun z => e z.2.2)]
  have w200 : ∀ i, aI μ1 200 (b + 44) i = if i = 60 * k + t then vv else aI μ 200 (b + 44) i := fun i => by
    rw [e1, aI_sI, aI_tI']
    by_cases e : i = 60 * k + t
    · rw [if_pos e, if_pos ⟨rfl, rfl, e⟩]
    · rw [if_neg e, if_neg (fun z => e z.2.2), aI_tI', if_neg (fun z => absurd z.1 (by omega))]
  have w810 : mI μ1 810 (b + 38) = q_i3 (t + 1) := by rw [e1, mI_sI', if_pos ⟨rfl, rfl⟩]
  rw [← e1] at m1 ⊢
  have E1 := hE.md m1 rfl
  have f1 : Fp b k μ μ1 := ⟨m1.wk rfl, fun i hi => ⟨by rw [w192, if_neg (by omega)], by rw [w200, if_neg (by omega)]⟩⟩
  refine q_wp_mono (r_next E1 hx.1 (by rw [m1.1.i 805 rfl]; exact t2)) ?_
  rintro _ ν ⟨m2, T2⟩
  rw [wp_rz]
  have f2 : Fp b k μ1 ν := Fp.of m2 rfl rfl
  refine ⟨Or.inr rfl, f1.tr f2, fun q1 hq1 => ?_, fun e he => ?_⟩
  · obtain ⟨rfl, hne1⟩ := adE_ok hq1
    refine ⟨rfl, T2, hne1, hx.1, by rw [m2.1.i 809 rfl, m1.1.i 809 rfl]; exact a1, by rw [m2.1.i 810 rfl]; exact w810, by rw [m2.1.i 811 rfl, m1.1.i 811 rfl]; exact a3, by rw [List.length_append, a4]; rfl, by omega, a6, a7, fun i hi => ?_, by rw [m2.1.i 770 rfl, m1.1.i 770 rfl]; exact a9.1, by rw [m2.1.i 771 rfl, m1.1.i 771 rfl]; exact a9.2⟩
    rw [m2.1.ai 192 rfl, m2.1.ai 200 rfl, w192, w200]
    by_cases e : i = t
    · rw [if_pos (by omega), if_pos (by omega), e, ← a4]
      rw [ev, t4 h17 hne]; simp [tkq]
    · rw [if_neg (by omega), if_neg (by omega)]
      have : (ks ++ [tkq (lexOf tp L) q]).getD i (0, 0) = ks.getD i (0, 0) := by simp only [List.getD_eq_getElem?_getD]; rw [List.getElem?_append_left (by omega)]
      rw [this]; exact a8 i (by omega)
  · right
    unfold adE at he
    by_cases hb : lxk (lexOf tp L) (lxn (lexOf tp L) q) = -1
    · rw [if_pos hb] at he; cases he
      exact ⟨rfl, rfl, by rw [T2.2.2.1, hb]; decide, T2.1, by rw [m2.1.i 770 rfl, m1.1.i 770 rfl]; exact a9.1⟩
    · rw [if_neg hb] at he; cases he

theorem wp_rz0 {μ : Mem} {Q : Int32 → Mem → Prop} : q_wp (rz 0) μ Q ↔ Q 0 μ := by rw [wp_rz]; exact ⟨fun h => h.2, fun h => ⟨Or.inl rfl, h⟩⟩
theorem wp_rz1 {μ : Mem} {Q : Int32 → Mem → Prop} : q_wp (rz 1) μ Q ↔ Q 1 μ := by rw [wp_rz]; exact ⟨fun h => h.2, fun h => ⟨Or.inr rfl, h⟩⟩
theorem rQ_tr {b L k o : Nat} {x : q_Lx} {μ ν : Mem} {r : q_Res} {ks : List q_Tok} {v : Int32} {ρ : Mem} (f : Fp b k μ ν) (h : rPost b x L k o r ks ν v ρ) : rPost b x L k o r ks μ v ρ := ⟨f.tr h.1, h.2⟩
theorem rQ_er {b L k o : Nat} {x : q_Lx} {μ ν : Mem} {e : q_Er} {ks : List q_Tok} {v : Int32} {ρ : Mem} (f : Fp b k μ ν) (h : rEnd b k e ν v ρ) : rPost b x L k o (.error e) ks μ v ρ := ⟨f.tr h.1, fun u hu => (by cases hu), fun e' he => (by cases he; exact h.2)⟩
theorem q_rB {b L k o o' : Nat} {tp : Nat → Int32} {x : q_Lx} {μ : Mem} {P K : M Int32} {r : q_Res} {f : q_Pr → q_Res} {ks ks0 : List q_Tok} (hE : EnvR μ b tp L) (h : q_wp P μ (rPost b x L k o r ks μ)) (hP : Pnd b tp L k K) (hok : ∀ u ν, r = .ok u → EnvR ν b tp L → rS ν b x L k u.1 u.2.1 o (ks ++ u.2.2.2.1) → q_wp K ν (rPost b x L k o' (f u) ks0 ν)) : q_wp (bn P fun v => if v = 0 then rz 0 else K) μ (rPost b x L k o' (thn r f) ks0 μ) ∧ q_wp (bn P fun v => if ¬ v = 0 then K else rz 0) μ (rPost b x L k o' (thn r f) ks0 μ) := by
  rw [wp_bn, wp_bn]
  have key : ∀ v ν, rPost b x L k o r ks μ v ν → (v = 0 ∧ rPost b x L k o' (thn r f) ks0 μ 0 ν) ∨ (v = 1 ∧ q_wp K ν (rPost b x L k o' (thn r f) ks0 μ)) := by
    rintro v ν ⟨f1, g1, g2⟩
    have E1 := hE.fp f1
    cases r with
    | error e =>
      rcases g2 e rfl with ⟨rfl, h2⟩ | ⟨rfl, h2⟩
      · exact Or.inl ⟨rfl, rQ_er f1 ⟨Fp.rf _ _ _, Or.inl ⟨rfl, h2⟩⟩⟩
      · exact Or.inr ⟨rfl, q_wp_mono (hP ν e E1 h2) fun w ρ hρ => rQ_er f1 hρ⟩
    | ok u =>
      obtain ⟨rfl, h2⟩ := g1 u rfl
      exact Or.inr ⟨rfl, q_wp_mono (hok u ν rfl E1 h2) fun w ρ hρ => rQ_tr f1 hρ⟩
  constructor
  · refine q_wp_mono h fun v ν hv => ?_
    rcases key v ν hv with ⟨rfl, h2⟩ | ⟨rfl, h2⟩
    · rw [wp_ite, if_pos rfl, wp_rz0]; exact h2
    · rw [wp_ite, if_neg (by decide)]; exact h2
  · refine q_wp_mono h fun v ν hv => ?_
    rcases key v ν hv with ⟨rfl, h2⟩ | ⟨rfl, h2⟩
    · rw [wp_ite, if_neg (fun z => z rfl), wp_rz0]; exact h2
    · rw [wp_ite, if_pos (by decide)]; exact h2
def tkR (x : q_Lx) (t q : Nat) : q_Res := thn (tkE x t q) fun q1 => .ok (q1, t + 1, [], [tkq x q], fun _ => 0)
theorem r_tkP {b L k q t o : Nat} {tp : Nat → Int32} {x : q_Lx} {μ : Mem} {ks : List q_Tok} (hx : x = lexOf tp L) (hE : EnvR μ b tp L) (h17 : lxk x q ≠ 17) (h : rS μ b x L k q t o ks) : q_wp (F_X12_take (b + 38)) μ (rPost b x L k o (tkR x t q) ks μ) := by
  subst hx
  refine q_wp_mono (r_tkn hE h17 h) ?_
  rintro v ν ⟨f, g1, g2⟩
  refine ⟨f, fun u hu => ?_, fun e he => ?_⟩
  · obtain ⟨q1, h1, h2⟩ := thn_ok hu
    cases h2
    exact g1 q1 h1
  · cases hr : tkE (lexOf tp L) t q with
    | error e' => rw [tkR, hr] at he; cases he; exact g2 _ hr
    | ok q1 => rw [tkR, hr] at he; cases he
theorem tkR_thn {x : q_Lx} {t q : Nat} {f : Nat → q_Res} : thn (tkR x t q) (fun u => f u.1) = thn (tkE x t q) f := by
  unfold tkR
  cases tkE x t q <;> rfl
theorem rT {b L k q t o o' : Nat} {tp : Nat → Int32} {x : q_Lx} {μ : Mem} {K : M Int32} {f : Nat → q_Res} {ks ks0 : List q_Tok} (hx : x = lexOf tp L) (hE : EnvR μ b tp L) (h17 : lxk x q ≠ 17) (h : rS μ b x L k q t o ks) (hP : Pnd b tp L k K) (hok : ∀ q1 ν, tkE x t q = .ok q1 → EnvR ν b tp L → rS ν b x L k q1 (t + 1) o (ks ++ [tkq x q]) → q_wp K ν (rPost b x L k o' (f q1) ks0 ν)) : q_wp (bn (F_X12_take (b + 38)) fun v => if v = 0 then rz 0 else K) μ (rPost b x L k o' (thn (tkE x t q) f) ks0 μ) ∧ q_wp (bn (F_X12_take (b + 38)) fun v => if ¬ v = 0 then K else rz 0) μ (rPost b x L k o' (thn (tkE x t q) f) ks0 μ) := by
  rw [← tkR_thn]
  refine q_rB hE (r_tkP hx hE h17 h) hP fun u ν hu E1 h1 => ?_
  obtain ⟨q1, a1, a2⟩ := thn_ok hu
  cases a2
  exact hok q1 ν a1 E1 h1
def PdF (b : Nat) (tp : Nat → Int32) (L k : Nat) (P : M Int32) : Prop := ∀ ν e, EnvR ν b tp L → RPd ν b e → q_wp P ν (fun v ρ => v = 0 ∧ Fp b k ν ρ ∧ RFl ρ b e)
theorem PdF.p {b L k : Nat} {tp : Nat → Int32} {P : M Int32} (h : PdF b tp L k P) : Pnd b tp L k P := fun ν e hE hP => q_wp_mono (h ν e hE hP) fun v ρ q => ⟨q.2.1, Or.inl ⟨q.1, q.2.2⟩⟩
theorem Pnd_rz1 {b L k : Nat} {tp : Nat → Int32} : Pnd b tp L k (rz 1) := fun ν e _ h => by rw [wp_rz1]; exact ⟨Fp.rf _ _ _, Or.inr ⟨rfl, h⟩⟩
theorem Pnd_call {b L k : Nat} {tp : Nat → Int32} {K : Nat → M Int32} (h : Pnd b tp L k (K (b + 38))) : Pnd b tp L k (bn (pRc 12 (some (b + 38))) K) := fun ν e hE hP => by rw [wp_bn, xpR12 hE.1]; exact h ν e hE hP
theorem Pnd_sign {b L k : Nat} {tp : Nat → Int32} {c : Int32} {G : Int32 → M Int32} (h : Pnd b tp L k (G 0)) : Pnd b tp L k (bn (pRc 12 (some (b + 38))) fun b1 => bn (F_X12_isSign b1 c) G) := fun ν e hE hP => by
  rw [wp_bn, xpR12 hE.1, wp_bn, wp_eq (r_isSignP hE.1 hP.2.1)]; exact h ν e hE hP
theorem Pnd_f1 {b L k : Nat} {tp : Nat → Int32} {F : Nat → M Int32} {K : M Int32} (h : PdF b tp L k (F (b + 38))) : Pnd b tp L k (bn (pRc 12 (some (b + 38))) fun b1 => bn (F b1) fun v => if v = 0 then rz 0 else K) := fun ν e hE hP => by
  rw [wp_bn, xpR12 hE.1, wp_bn]
  refine q_wp_mono (h ν e hE hP) ?_
  rintro v ρ ⟨rfl, f, g⟩
  rw [wp_ite, if_pos rfl, wp_rz0]; exact ⟨f, Or.inl ⟨rfl, g⟩⟩
theorem Pnd_f2 {b L k : Nat} {tp : Nat → Int32} {F : Nat → M Int32} {K : M Int32} (h : PdF b tp L k (F (b + 38))) : Pnd b tp L k (bn (pRc 12 (some (b + 38))) fun b1 => bn (F b1) fun v => if ¬ v = 0 then K else rz 0) := fun ν e hE hP => by
  rw [wp_bn, xpR12 hE.1, wp_bn]
  refine q_wp_mono (h ν e hE hP) ?_
  rintro v ρ ⟨rfl, f, g⟩
  rw [wp_ite, if_neg (fun z => z rfl), wp_rz0]; exact ⟨f, Or.inl ⟨rfl, g⟩⟩
theorem PdF_fail {b L k : Nat} {tp : Nat → Int32} {c : Int32} : PdF b tp L k (bn (pRc 12 (some (b + 38))) fun b1 => bn (F_X12_fails b1 c) fun v => rz v) := fun ν e hE hP => by
  rw [wp_bn, xpR12 hE.1, wp_bn]
  refine q_wp_mono (r_failP (k := k) hE hP) ?_
  rintro v ρ ⟨rfl, f, g⟩
  rw [wp_rz0]; exact ⟨rfl, f, g⟩
theorem PdF_takeSign {b L k : Nat} {tp : Nat → Int32} {c : Int32} : PdF b tp L k (F_X12_takeSign (b + 38) c) := fun ν e hE hP => by
  unfold F_X12_takeSign
  rw [wp_bn, xpR12 hE.1, wp_bn, wp_eq (r_isSignP hE.1 hP.2.1), wp_ite, if_pos rfl]
  exact PdF_fail ν e hE hP
theorem Pnd_close {b L k : Nat} {tp : Nat → Int32} : Pnd b tp L k (bn (gI 12 43 (some (b + 38))) fun v => bn (wI 12 43 (some (b + 38)) (v - (1 : Int32))) fun _ => rz (1 : Int32)) := fun ν e hE hP => by
  obtain ⟨h1, h2, h3, h4⟩ := hP
  rw [wp_bn, xgI12 hE.1, wp_bn, xwI12 hE.1, wp_rz1]
  have m : Md [811] ν (sI ν (64 * 12 + 43) (b + 38) (mI ν (64 * 12 + 43) (b + 38) - 1)) := Md.sI (by rw [kk12 hE.1]; omega)
  exact ⟨Fp.of m rfl rfl, Or.inr ⟨rfl, h1, by rw [m.1.i 806 rfl]; exact h2, by rw [m.1.i 804 rfl]; exact h3, by rw [m.1.i 770 rfl]; exact h4⟩⟩
theorem r_close {b L k o : Nat} {tp : Nat → Int32} {x : q_Lx} {μ : Mem} {u : q_Pr} {ks ks0 : List q_Tok} (hE : EnvR μ b tp L) (h : rS μ b x L k u.1 u.2.1 (o + 1) ks) (hk : ks = ks0 ++ u.2.2.2.1) : q_wp (bn (gI 12 43 (some (b + 38))) fun v => bn (wI 12 43 (some (b + 38)) (v - (1 : Int32))) fun _ => rz (1 : Int32)) μ (rPost b x L k o (.ok u) ks0 μ) := by
  obtain ⟨⟨t1, t2, t3, t4⟩, hne, hq, a1, a2, a3, a4, a5, a6, a7, a8, a9⟩ := h
  rw [wp_bn, xgI12 hE.1, show mI μ (64 * 12 + 43) (b + 38) = q_i3 (o + 1) from a3, i3_s1, wp_bn, xwI12 hE.1, wp_rz1]
  have m : Md [811] μ (sI μ (64 * 12 + 43) (b + 38) (q_i3 o)) := Md.sI (by rw [kk12 hE.1]; omega)
  refine ⟨Fp.of m rfl rfl, fun v hv => ?_, fun e he => (by cases he)⟩
  cases hv
  refine ⟨rfl, ⟨by rw [m.1.i 804 rfl]; exact t1, by rw [m.1.i 805 rfl]; exact t2, by rw [m.1.i 806 rfl]; exact t3, by rw [m.1.i 807 rfl]; exact t4⟩, hne, hq, by rw [m.1.i 809 rfl]; exact a1, by rw [m.1.i 810 rfl]; exact a2, by rw [mI_sI', if_pos ⟨rfl, rfl⟩], by rw [← hk]; exact a4, a5, by omega, a7, by rw [← hk, m.1.ai 192 rfl, m.1.ai 200 rfl]; exact a8, by rw [m.1.i 770 rfl]; exact a9.1, by rw [m.1.i 771 rfl]; exact a9.2⟩
theorem rP_ok {b L k o : Nat} {x : q_Lx} {μ : Mem} {u : q_Pr} {ks : List q_Tok} (h : rS μ b x L k u.1 u.2.1 o (ks ++ u.2.2.2.1)) : rPost b x L k o (.ok u) ks μ 1 μ := ⟨Fp.rf _ _ _, fun v hv => (by cases hv; exact ⟨rfl, h⟩), fun e he => (by cases he)⟩
theorem rP_fail {b L k q t o o' : Nat} {tp : Nat → Int32} {x : q_Lx} {μ : Mem} {c : Int32} {ks ks0 : List q_Tok} (hE : EnvR μ b tp L) (h : rS μ b x L k q t o ks) : q_wp (bn (pRc 12 (some (b + 38))) fun b1 => bn (F_X12_fails b1 c) fun v => rz v) μ (rPost b x L k o' (.error (c, lxf x q)) ks0 μ) := by
  rw [wp_bn, xpR12 hE.1, wp_bn]
  refine q_wp_mono (r_failS hE h) ?_
  rintro v ν ⟨rfl, f, g⟩
  rw [wp_rz0]
  exact ⟨f, fun u hu => (by cases hu), fun e he => (by cases he; exact Or.inl ⟨rfl, g⟩)⟩
theorem rG {b L k q t o o' : Nat} {tp : Nat → Int32} {x : q_Lx} {μ : Mem} {c : Int32} {K : M Int32} {f : Nat → q_Res} {ks ks0 : List q_Tok} (hx : x = lexOf tp L) (hc : rkk c = 3) (hc17 : c ≠ 17) (hE : EnvR μ b tp L) (h : rS μ b x L k q t o ks) (hP : Pnd b tp L k K) (hok : ∀ q1 ν, tkE x t q = .ok q1 → EnvR ν b tp L → rS ν b x L k q1 (t + 1) o (ks ++ [tkq x q]) → q_wp K ν (rPost b x L k o' (f q1) ks0 ν)) : q_wp (bn (F_X12_takeSign (b + 38) c) fun v => if v = 0 then rz 0 else K) μ (rPost b x L k o' (if lxk x q = c then thn (tkE x t q) f else .error (2, lxf x q)) ks0 μ) ∧ q_wp (bn (F_X12_takeSign (b + 38) c) fun v => if ¬ v = 0 then K else rz 0) μ (rPost b x L k o' (if lxk x q = c then thn (tkE x t q) f else .error (2, lxf x q)) ks0 μ) := by
  have key : q_wp (F_X12_takeSign (b + 38) c) μ (rPost b x L k o (if lxk x q = c then tkR x t q else .error (2, lxf x q)) ks μ) := by
    unfold F_X12_takeSign
    rw [wp_bn, xpR12 hE.1, wp_bn, wp_eq (r_isSign hE.1 h.1 hc), wp_ite]
    by_cases e : lxk x q = c
    · rw [if_pos e, if_neg (by decide), if_pos e, wp_bn, xpR12 hE.1, wp_bn]
      refine q_wp_mono (r_tkP hx hE (by rw [e]; exact hc17) h) ?_
      rintro v ν hv
      have : v = 0 ∨ v = 1 := by
        obtain ⟨_, g1, g2⟩ := hv
        cases hr : tkR x t q with
        | error e' => rcases g2 _ hr with z | z; exact Or.inl z.1; exact Or.inr z.1
        | ok u => exact Or.inr (g1 u hr).1
      rw [wp_rz]; exact ⟨this, hv⟩
    · rw [if_neg e, if_pos rfl, if_neg e]
      exact rP_fail hE h
  have e2 : (if lxk x q = c then thn (tkE x t q) f else .error (2, lxf x q)) = thn (if lxk x q = c then tkR x t q else .error (2, lxf x q)) (fun u => f u.1) := by
    split
    · exact tkR_thn.symm
    · rfl
  rw [e2]
  refine q_rB hE key hP fun u ν hu E1 h1 => ?_
  split at hu
  · obtain ⟨q1, b1, b2⟩ := thn_ok hu
    cases b2
    exact hok q1 ν b1 E1 h1
  · cases hu
theorem rO {b L k q t d o' : Nat} {tp : Nat → Int32} {x : q_Lx} {μ : Mem} {K : M Int32} {f : (Nat → Nat → q_Res) × (Nat → Nat → q_Res) → Nat → q_Res} {ks ks0 : List q_Tok} (hx : x = lexOf tp L) (hd : d ≤ 12) (hE : EnvR μ b tp L) (h17 : lxk x q ≠ 17) (h : rS μ b x L k q t (12 - d) ks) (hP : Pnd b tp L k K) (hok : ∀ d' q1 ν, d = d' + 1 → tkE x t q = .ok q1 → EnvR ν b tp L → rS ν b x L k q1 (t + 1) (12 - d') (ks ++ [tkq x q]) → q_wp K ν (rPost b x L k o' (f (pLv x d') q1) ks0 ν)) : q_wp (bn (F_X12_opens (b + 38)) fun v => if v = 0 then rz 0 else K) μ (rPost b x L k o' (match opL x d with | none => .error (3, lxf x q) | some EF => thn (tkE x t q) (f EF)) ks0 μ) := by
  have a3 := h.2.2.2.2.2.1
  unfold F_X12_opens
  rw [wp_bn, wp_bn, xgI12 hE.1, show mI μ (64 * 12 + 43) (b + 38) = q_i3 (12 - d) from a3, wp_ite]
  have heq : q_i3 (12 - d) = 12 ↔ 12 - d = 12 := i3_eq (b := 12) (by omega) (by omega)
  cases d with
  | zero =>
    rw [if_neg (fun z => z (heq.mpr rfl))]
    refine q_wp_mono (rP_fail (c := 3) (o' := o') (ks0 := ks0) hE h) ?_
    rintro v ν hv
    rcases hv.2.2 _ rfl with ⟨rfl, g⟩ | ⟨rfl, g⟩
    · rw [wp_ite, if_pos rfl, wp_rz0]; exact hv
    · exact absurd (show (3 : Int32) = 1 from g.1) (by decide)
  | succ d' =>
    rw [if_pos (fun z => by have := heq.mp z; omega), wp_bn, xgI12 hE.1, show mI μ (64 * 12 + 43) (b + 38) = q_i3 (12 - (d' + 1)) from a3, i3_1, show 12 - (d' + 1) + 1 = 12 - d' by omega, wp_bn, xwI12 hE.1]
    have m : Md [811] μ (sI μ (64 * 12 + 43) (b + 38) (q_i3 (12 - d'))) := Md.sI (by rw [kk12 hE.1]; omega)
    have E1 := hE.md m rfl
    obtain ⟨⟨t1, t2, t3, t4⟩, hne, hq, a1, a2, a3, a4, a5, a6, a7, a8, a9⟩ := h
    have h1 : rS (sI μ (64 * 12 + 43) (b + 38) (q_i3 (12 - d'))) b x L k q t (12 - d') ks := ⟨⟨by rw [m.1.i 804 rfl]; exact t1, by rw [m.1.i 805 rfl]; exact t2, by rw [m.1.i 806 rfl]; exact t3, by rw [m.1.i 807 rfl]; exact t4⟩, hne, hq, by rw [m.1.i 809 rfl]; exact a1, by rw [m.1.i 810 rfl]; exact a2, by rw [mI_sI', if_pos ⟨rfl, rfl⟩], a4, a5, by omega, a7, by rw [m.1.ai 192 rfl, m.1.ai 200 rfl]; exact a8, by rw [m.1.i 770 rfl]; exact a9.1, by rw [m.1.i 771 rfl]; exact a9.2⟩
    have key := (rT (o' := o') (f := f (pLv x d')) (ks0 := ks0) hx E1 h17 h1 hP (fun q1 ν hq1 E2 h2 => hok d' q1 ν rfl hq1 E2 h2)).1
    rw [wp_bn] at key
    rw [wp_bn, xpR12 E1.1, wp_bn]
    have tk := r_tkP hx E1 h17 h1
    refine q_wp_mono (show q_wp (F_X12_take (b + 38)) (sI μ (64 * 12 + 43) (b + 38) (q_i3 (12 - d'))) (fun a μ' => (a = 0 ∨ a = 1) ∧ q_wp (if a = 0 then rz 0 else K) μ' (rPost b x L k o' (thn (tkE x t q) (f (pLv x d'))) ks0 (sI μ (64 * 12 + 43) (b + 38) (q_i3 (12 - d'))))) from ?_) ?_
    · obtain ⟨a, μ', c1, c2⟩ := key
      obtain ⟨a', μ'', c3, c4⟩ := tk
      rw [c1] at c3; cases c3
      refine ⟨a, μ', c1, ?_, c2⟩
      obtain ⟨_, g1, g2⟩ := c4
      cases hr : tkR x t q with
      | error e' => rcases g2 _ hr with z | z; exact Or.inl z.1; exact Or.inr z.1
      | ok u => exact Or.inr (g1 u hr).1
    · rintro v ν ⟨hv, hw⟩
      rw [wp_rz]
      refine ⟨hv, q_wp_mono hw fun w ρ hρ => ?_⟩
      exact rQ_tr (Fp.of m rfl rfl) hρ

def RSpec (b : Nat) (tp : Nat → Int32) (L k : Nat) (x : q_Lx) (G : M Int32) (F : Nat → Nat → q_Res) (d : Nat) : Prop := ∀ μ q t ks, EnvR μ b tp L → rS μ b x L k q t (12 - d) ks → q_wp G μ (rPost b x L k (12 - d) (F q t) ks μ)
theorem pdF (b L k : Nat) (tp : Nat → Int32) (n : Nat) : PdF b tp L k ((R_X12_readExpr (n + 1)).2.2.2 (b + 38)) := by
  intro ν e hE hP
  show q_wp (F_X12_readFactor_B _ _ _ _ (b + 38)) ν _
  have hk : mI ν (64 * 12 + 38) (b + 38) = 4 := hP.2.1
  unfold F_X12_readFactor_B F_X12_readFactor_L30 F_X12_readFactor_L97 F_X12_readFactor_L98 F_X12_readFactor_L112
  rw [wp_bn, xgI12 hE.1, hk, wp_ite, if_neg (by decide), wp_bn, xgI12 hE.1, hk, wp_ite, if_pos (by decide), wp_bn, xpR12 hE.1, wp_bn, wp_eq (r_isSignP hE.1 hP.2.1), wp_ite, if_pos rfl, wp_bn, xgI12 hE.1, hk, wp_ite, if_pos (by decide), wp_ite, if_pos rfl, wp_bn, xpR12 hE.1, wp_bn, wp_eq (r_isSignP hE.1 hP.2.1), wp_ite, if_neg (fun z => z rfl)]
  exact PdF_fail ν e hE hP
theorem pdP (b L k : Nat) (tp : Nat → Int32) (n : Nat) : PdF b tp L k ((R_X12_readExpr (n + 2)).2.2.1 (b + 38)) := by
  intro ν e hE hP
  show q_wp (F_X12_readPart_B _ _ _ (R_X12_readExpr (n + 1)).2.2.2 (b + 38)) ν _
  unfold F_X12_readPart_B
  rw [wp_bn, xpR12 hE.1, wp_bn]
  refine q_wp_mono (pdF b L k tp n ν e hE hP) ?_
  rintro v ρ ⟨rfl, f, g⟩
  rw [wp_ite, if_neg (fun z => z rfl), wp_rz0]; exact ⟨rfl, f, g⟩
theorem pdS (b L k : Nat) (tp : Nat → Int32) (n : Nat) : PdF b tp L k ((R_X12_readExpr (n + 3)).2.1 (b + 38)) := by
  intro ν e hE hP
  show q_wp (F_X12_readSum_B _ _ (R_X12_readExpr (n + 2)).2.2.1 _ (b + 38)) ν _
  unfold F_X12_readSum_B
  rw [wp_bn, xpR12 hE.1, wp_bn]
  refine q_wp_mono (pdP b L k tp n ν e hE hP) ?_
  rintro v ρ ⟨rfl, f, g⟩
  rw [wp_ite, if_neg (fun z => z rfl), wp_rz0]; exact ⟨rfl, f, g⟩
theorem pdE (b L k : Nat) (tp : Nat → Int32) (n : Nat) : PdF b tp L k ((R_X12_readExpr (n + 4)).1 (b + 38)) := by
  intro ν e hE hP
  show q_wp (F_X12_readExpr_B _ (R_X12_readExpr (n + 3)).2.1 _ _ (b + 38)) ν _
  unfold F_X12_readExpr_B
  rw [wp_bn, xpR12 hE.1, wp_bn]
  refine q_wp_mono (pdS b L k tp n ν e hE hP) ?_
  rintro v ρ ⟨rfl, f, g⟩
  rw [wp_ite, if_neg (fun z => z rfl), wp_rz0]; exact ⟨rfl, f, g⟩
theorem rkk_n {c : Int32} (h1 : rkk c = 1) : c = 16 := by
  unfold rkk at h1
  split at h1
  · exact absurd h1 (by decide)
  split at h1
  · assumption
  split at h1
  · exact absurd h1 (by decide)
  split at h1
  · exact absurd h1 (by decide)
  · exact absurd h1 (by decide)
theorem rkk_w {c : Int32} (hne : c ≠ -1) : (rkk c = 2 ↔ c < 16) := by
  unfold rkk
  rw [if_neg hne]
  constructor
  · intro h
    split at h
    · exact absurd h (by decide)
    split at h
    · exact absurd h (by decide)
    split at h
    · assumption
    · exact absurd h (by decide)
  · intro h
    have z16 : (16 : Int32).toInt = 16 := rfl
    have z17 : (17 : Int32).toInt = 17 := rfl
    rw [Int32.lt_iff_toInt_lt, z16] at h
    rw [if_neg (fun z => by rw [z, z17] at h; omega), if_neg (fun z => by rw [z, z16] at h; omega), if_pos (by rw [Int32.lt_iff_toInt_lt, z16]; exact h)]
theorem rvv_w {c n : Int32} (h16 : c < 16) (h0 : ¬ c < 0) : (rvv c n < 10 ↔ c < 6 ∨ ¬ c < 12) ∧ (rvv c n = 8 ↔ c = 14) ∧ (rvv c n = 9 ↔ c = 15) ∧ (rvv c n < 6 ↔ c < 6) ∧ (rvv c n = 6 ↔ c = 12) ∧ (rvv c n = 7 ↔ c = 13) := by
  obtain ⟨j, _, rfl⟩ := i3_of_nn h0
  have hj : j < 16 := (i3_lt (b := 16) (by omega) (by omega)).mp h16
  have e : rvv (q_i3 j) n = rvv (q_i3 j) 0 := by
    unfold rvv
    have : q_i3 j ≠ 16 := fun z => by have := (i3_eq (b := 16) (by omega) (by omega)).mp z; omega
    rw [if_neg this, if_neg this]
  rw [e]
  have key : ∀ j : Fin 16, (rvv (q_i3 j.1) 0 < 10 ↔ q_i3 j.1 < 6 ∨ ¬ q_i3 j.1 < 12) ∧ (rvv (q_i3 j.1) 0 = 8 ↔ q_i3 j.1 = 14) ∧ (rvv (q_i3 j.1) 0 = 9 ↔ q_i3 j.1 = 15) ∧ (rvv (q_i3 j.1) 0 < 6 ↔ q_i3 j.1 < 6) ∧ (rvv (q_i3 j.1) 0 = 6 ↔ q_i3 j.1 = 12) ∧ (rvv (q_i3 j.1) 0 = 7 ↔ q_i3 j.1 = 13) := by decide
  exact key ⟨j, hj⟩
theorem lex_nn {tp : Nat → Int32} {L q : Nat} (h : lxk (lexOf tp L) q ≠ -1) : ¬ lxk (lexOf tp L) q < 0 := by
  have h : lkC' tp L (rnL isBk tp L q) ≠ -1 := h
  show ¬ lkC' tp L (rnL isBk tp L q) < 0
  unfold lkC' at h ⊢
  split at h
  · rw [if_pos (by assumption)]; decide
  rename_i h1
  rw [if_neg h1]
  split at h
  · rename_i h2
    rw [if_pos h2]
    rcases wix_r WDC 0 (slc tp (rnL isBk tp L q) (rnL isLt tp L (rnL isBk tp L q))) with z | ⟨j, _, h2, h3⟩
    · exact absurd z h
    · have : j < 16 := h2
      rw [h3]; exact i3_nn (by omega)
  rename_i h2
  rw [if_neg h2]
  split at h
  · rename_i h3
    rw [if_pos h3]
    split at h
    · rw [if_pos (by assumption)]; decide
    · exact absurd rfl h
  rename_i h3
  rw [if_neg h3]
  split at h
  · rename_i h4
    rw [if_pos h4]
    have : ∀ y, y ∈ tx 1 → ¬ y < 0 := by decide
    exact this _ (List.contains_iff_mem.mp h4)
  · exact absurd rfl h
theorem r_fac {b L k n d : Nat} {tp : Nat → Int32} {x : q_Lx} (hx : x = lexOf tp L) (hd : d ≤ 12) (hn : 4 ≤ n) (hF' : ∀ d', d = d' + 1 → RSpec b tp L k x ((R_X12_readExpr n).2.2.2 (b + 38)) (pLv x d').2 d') (hE' : ∀ d', d = d' + 1 → RSpec b tp L k x ((R_X12_readExpr n).1 (b + 38)) (pLv x d').1 d') : RSpec b tp L k x ((R_X12_readExpr (n + 1)).2.2.2 (b + 38)) (pFac x (opL x d)) d := by
  intro μ q t ks hE h
  obtain ⟨m, rfl⟩ : ∃ m, n = m + 4 := ⟨n - 4, by omega⟩
  have hne := h.2.1
  have hnn : ¬ lxk x q < 0 := by subst hx; exact lex_nn hne
  have h17w : lxk x q < 16 → lxk x q ≠ 17 := fun z y => by rw [y] at z; exact absurd z (by decide)
  have hk : mI μ (64 * 12 + 38) (b + 38) = rkk (lxk x q) := h.1.2.2.1
  show q_wp (F_X12_readFactor_B (R_X12_readExpr (m + 4)).1 (R_X12_readExpr (m + 4)).2.1 (R_X12_readExpr (m + 4)).2.2.1 (R_X12_readExpr (m + 4)).2.2.2 (b + 38)) μ _
  have one : ∀ (c : Int32) (v : q_Val), lxk x q ≠ 17 → q_wp (bn (pRc 12 (some (b + 38))) fun b2 => bn (F_X12_take b2) fun v3 => rz v3) μ (rPost b x L k (12 - d) (thn (tkE x t q) fun q1 => .ok (q1, t + 1, [c], [tkq x q], v)) ks μ) := by
    intro c v h17
    rw [wp_bn, xpR12 hE.1, wp_bn]
    refine q_wp_mono (r_tkP hx hE h17 h) ?_
    rintro w ν ⟨f, g1, g2⟩
    cases hr : tkE x t q with
    | error e' =>
      have he : tkR x t q = .error e' := by unfold tkR; rw [hr]; rfl
      have hv := g2 _ he
      rw [wp_rz]
      exact ⟨by rcases hv with z | z; exact Or.inl z.1; exact Or.inr z.1, f, fun u hu => (by cases hu), fun e he => (by cases he; exact hv)⟩
    | ok q1 =>
      have he : tkR x t q = .ok (q1, t + 1, [], [tkq x q], fun _ => 0) := by unfold tkR; rw [hr]; rfl
      obtain ⟨rfl, h1⟩ := g1 _ he
      rw [wp_rz1]
      exact ⟨f, fun u hu => (by cases hu; exact ⟨rfl, h1⟩), fun e he => (by cases he)⟩
  unfold F_X12_readFactor_B pFac
  rw [wp_bn, xgI12 hE.1, hk, wp_ite]
  by_cases e16 : lxk x q = 16
  · rw [if_pos e16, if_pos (by rw [e16]; decide)]
    exact one _ _ (by rw [e16]; decide)
  rw [if_neg e16, if_neg (fun z => e16 (rkk_n z)), wp_bn, xgI12 hE.1, hk, wp_ite]
  have brP : Pnd b tp L k (F_X12_readFactor_L165 (R_X12_readExpr (m + 4)).1 (R_X12_readExpr (m + 4)).2.1 (R_X12_readExpr (m + 4)).2.2.1 (R_X12_readExpr (m + 4)).2.2.2 (b + 38)) := by
    unfold F_X12_readFactor_L165
    exact Pnd_f2 (F := fun b32 => F_X12_takeSign b32 41) PdF_takeSign
  have L165 : ∀ (d' : Nat) (ν : Mem) (u w : q_Pr) (ks' ks1 : List q_Tok), d = d' + 1 → EnvR ν b tp L → rS ν b x L k u.1 u.2.1 (12 - d') ks' → (∀ q3, tkE x u.2.1 u.1 = .ok q3 → ks' ++ [tkq x u.1] = ks1 ++ w.2.2.2.1) → q_wp (F_X12_readFactor_L165 (R_X12_readExpr (m + 4)).1 (R_X12_readExpr (m + 4)).2.1 (R_X12_readExpr (m + 4)).2.2.1 (R_X12_readExpr (m + 4)).2.2.2 (b + 38)) ν (rPost b x L k (12 - d) (if lxk x u.1 = 41 then thn (tkE x u.2.1 u.1) fun q3 => .ok (q3, u.2.1 + 1, w.2.2.1, w.2.2.2.1, w.2.2.2.2) else .error (2, lxf x u.1)) ks1 ν) := by
    intro d' ν u w ks' ks1 ed E1 h1 hks
    unfold F_X12_readFactor_L165
    rw [wp_bn, xpR12 E1.1]
    refine (rG hx (by decide) (by decide) E1 h1 Pnd_close ?_).2
    intro q3 ρ hq3 E2 h2
    have eo : 12 - d' = 12 - d + 1 := by omega
    rw [eo] at h2
    exact r_close (u := (q3, u.2.1 + 1, w.2.2.1, w.2.2.2.1, w.2.2.2.2)) E2 h2 (hks q3 hq3)
  have L112 : ∀ (ν : Mem) (q1 t1 : Nat) (ks1 : List q_Tok), EnvR ν b tp L → rS ν b x L k q1 t1 (12 - d) ks1 → (q_wp (F_X12_readFactor_L112 (R_X12_readExpr (m + 4)).1 (R_X12_readExpr (m + 4)).2.1 (R_X12_readExpr (m + 4)).2.2.1 (R_X12_readExpr (m + 4)).2.2.2 (b + 38) 0) ν (rPost b x L k (12 - d) (if lxk x q1 = 40 then pB1 x (opL x d) q1 t1 else .error (2, lxf x q1)) ks1 ν)) ∧ ∀ kk : Int32, q_wp (F_X12_readFactor_L112 (R_X12_readExpr (m + 4)).1 (R_X12_readExpr (m + 4)).2.1 (R_X12_readExpr (m + 4)).2.2.1 (R_X12_readExpr (m + 4)).2.2.2 (b + 38) 1) ν (rPost b x L k (12 - d) (if lxk x q1 = 40 then pB2 x (opL x d) kk q1 t1 else .error (2, lxf x q1)) ks1 ν) := by
    intro ν q1 t1 ks1 E1 h1
    unfold F_X12_readFactor_L112
    constructor
    · rw [wp_bn, xpR12 E1.1, wp_bn, wp_eq (r_isSign E1.1 h1.1 (by decide)), wp_ite]
      by_cases e40 : lxk x q1 = 40
      rotate_left
      · rw [if_neg e40, if_neg (fun z => z rfl), if_neg e40]; exact rP_fail E1 h1
      rw [if_pos e40, if_pos (by decide), if_pos e40, wp_bn, xpR12 E1.1]
      refine rO (f := fun EF q2 => thn (EF.1 q2 (t1 + 1)) fun r => if lxk x r.1 = 41 then thn (tkE x r.2.1 r.1) fun q3 => .ok (q3, r.2.1 + 1, r.2.2.1, tkq x q1 :: (r.2.2.2.1 ++ [tkq x r.1]), r.2.2.2.2) else .error (2, lxf x r.1)) hx hd E1 (by rw [e40]; decide) h1 (Pnd_f2 (F := fun b24 => (R_X12_readExpr (m + 4)).1 b24) (pdE b L k tp m)) ?_
      intro d' q2 ρ ed hq2 E2 h2
      rw [wp_bn, xpR12 E2.1]
      refine (q_rB (ks0 := ks1) E2 (hE' d' ed ρ q2 (t1 + 1) _ E2 h2) (by rw [if_pos rfl]; exact brP) ?_).2
      intro r σ hr E3 h3
      rw [if_pos rfl]
      exact L165 d' σ r (r.1, r.2.1 + 1, r.2.2.1, tkq x q1 :: (r.2.2.2.1 ++ [tkq x r.1]), r.2.2.2.2) _ ks1 ed E3 h3 (fun q3 _ => by simp)
    · intro kk
      rw [wp_bn, xpR12 E1.1, wp_bn, wp_eq (r_isSign E1.1 h1.1 (by decide)), wp_ite]
      by_cases e40 : lxk x q1 = 40
      rotate_left
      · rw [if_neg e40, if_neg (fun z => z rfl), if_neg e40]; exact rP_fail E1 h1
      rw [if_pos e40, if_pos (by decide), if_pos e40, wp_bn, xpR12 E1.1]
      refine rO (f := fun EF q2 => thn (EF.1 q2 (t1 + 1)) fun r => if lxk x r.1 = 44 then thn (tkE x r.2.1 r.1) fun q3 => thn (EF.1 q3 (r.2.1 + 1)) fun u => if lxk x u.1 = 41 then thn (tkE x u.2.1 u.1) fun q5 => .ok (q5, u.2.1 + 1, r.2.2.1 ++ u.2.2.1, tkq x q1 :: (r.2.2.2.1 ++ tkq x r.1 :: (u.2.2.2.1 ++ [tkq x u.1])), fun w => cmb kk (r.2.2.2.2 w) (u.2.2.2.2 w)) else .error (2, lxf x u.1) else .error (2, lxf x r.1)) hx hd E1 (by rw [e40]; decide) h1 (Pnd_f2 (F := fun b24 => (R_X12_readExpr (m + 4)).1 b24) (pdE b L k tp m)) ?_
      intro d' q2 ρ ed hq2 E2 h2
      rw [wp_bn, xpR12 E2.1]
      refine (q_rB (ks0 := ks1) E2 (hE' d' ed ρ q2 (t1 + 1) _ E2 h2) (by rw [if_neg (by decide)]; exact Pnd_f1 (F := fun b26 => F_X12_takeSign b26 44) PdF_takeSign) ?_).2
      intro r σ hr E3 h3
      rw [if_neg (by decide), wp_bn, xpR12 E3.1]
      refine (rG hx (by decide) (by decide) E3 h3 (Pnd_f2 (F := fun b28 => (R_X12_readExpr (m + 4)).1 b28) (pdE b L k tp m)) ?_).1
      intro q3 τ hq3 E4 h4
      rw [wp_bn, xpR12 E4.1]
      refine (q_rB (ks0 := ks1) E4 (hE' d' ed τ q3 (r.2.1 + 1) _ E4 h4) brP ?_).2
      intro u υ hu E5 h5
      exact L165 d' υ u (u.1, u.2.1 + 1, r.2.2.1 ++ u.2.2.1, tkq x q1 :: (r.2.2.2.1 ++ tkq x r.1 :: (u.2.2.2.1 ++ [tkq x u.1])), fun w => cmb kk (r.2.2.2.2 w) (u.2.2.2.2 w)) _ ks1 ed E5 h5 (fun q5 _ => by simp)
  have L30 : ¬ (¬ lxk x q < 6 ∧ lxk x q < 12) → q_wp (F_X12_readFactor_L30 (R_X12_readExpr (m + 4)).1 (R_X12_readExpr (m + 4)).2.1 (R_X12_readExpr (m + 4)).2.2.1 (R_X12_readExpr (m + 4)).2.2.2 (b + 38)) μ (rPost b x L k (12 - d) (if ¬ lxk x q < 6 ∧ lxk x q < 12 then thn (tkE x t q) fun q1 => .ok (q1, t + 1, [-1 - (lxk x q - 6)], [tkq x q], fun w => w (lxk x q - 6).toNatClampNeg) else if lxk x q = 45 then pNg x (opL x d) q t else if lxk x q = 40 then pB1 x (opL x d) q t else if lxk x q = 14 ∨ lxk x q = 15 then pMM x (opL x d) q t else .error (2, lxf x q)) ks μ) := by
    intro hw
    rw [if_neg hw]
    unfold F_X12_readFactor_L30
    rw [wp_bn, xpR12 hE.1, wp_bn, wp_eq (r_isSign hE.1 h.1 (by decide)), wp_ite]
    by_cases e45 : lxk x q = 45
    · rw [if_pos e45, if_neg (by decide), if_pos e45, wp_bn, xpR12 hE.1]
      refine rO (f := fun EF q1 => thn (EF.2 q1 (t + 1)) fun r => .ok (r.1, r.2.1, r.2.2.1 ++ [-7], tkq x q :: r.2.2.2.1, fun w => - r.2.2.2.2 w)) hx hd hE (by rw [e45]; decide) h (Pnd_f2 (F := fun b15 => (R_X12_readExpr (m + 4)).2.2.2 b15) (pdF b L k tp (m + 3))) ?_
      intro d' q1 ν ed hq1 E1 h1
      rw [wp_bn, xpR12 E1.1]
      refine (q_rB (ks0 := ks) E1 (hF' d' ed ν q1 (t + 1) _ E1 h1) Pnd_close ?_).2
      intro r ρ hr E2 h2
      have eo : 12 - d' = 12 - d + 1 := by omega
      rw [eo] at h2
      exact r_close (u := (r.1, r.2.1, r.2.2.1 ++ [-7], tkq x q :: r.2.2.2.1, fun w => - r.2.2.2.2 w)) E2 h2 (by simp)
    rw [if_neg e45, if_pos rfl, if_neg e45, wp_bn, xgI12 hE.1, hk, wp_ite]
    have L97 : ¬ (lxk x q = 14 ∨ lxk x q = 15) → q_wp (F_X12_readFactor_L97 (R_X12_readExpr (m + 4)).1 (R_X12_readExpr (m + 4)).2.1 (R_X12_readExpr (m + 4)).2.2.1 (R_X12_readExpr (m + 4)).2.2.2 (b + 38)) μ (rPost b x L k (12 - d) (if lxk x q = 40 then pB1 x (opL x d) q t else if lxk x q = 14 ∨ lxk x q = 15 then pMM x (opL x d) q t else .error (2, lxf x q)) ks μ) := by
      intro hm
      unfold F_X12_readFactor_L97 F_X12_readFactor_L98
      rw [wp_ite, if_pos rfl, if_neg hm]
      exact (L112 μ q t ks hE h).1
    have L93 : (lxk x q = 14 ∨ lxk x q = 15) → q_wp (F_X12_readFactor_L93 (R_X12_readExpr (m + 4)).1 (R_X12_readExpr (m + 4)).2.1 (R_X12_readExpr (m + 4)).2.2.1 (R_X12_readExpr (m + 4)).2.2.2 (b + 38)) μ (rPost b x L k (12 - d) (if lxk x q = 40 then pB1 x (opL x d) q t else if lxk x q = 14 ∨ lxk x q = 15 then pMM x (opL x d) q t else .error (2, lxf x q)) ks μ) := by
      intro hm
      have n40 : lxk x q ≠ 40 := by rcases hm with z | z <;> rw [z] <;> decide
      have n17 : lxk x q ≠ 17 := by rcases hm with z | z <;> rw [z] <;> decide
      unfold F_X12_readFactor_L93 F_X12_readFactor_L98
      rw [wp_ite, if_neg (by decide), if_neg n40, if_pos hm, wp_bn, xpR12 hE.1]
      unfold pMM
      have pn : Pnd b tp L k (F_X12_readFactor_L112 (R_X12_readExpr (m + 4)).1 (R_X12_readExpr (m + 4)).2.1 (R_X12_readExpr (m + 4)).2.2.1 (R_X12_readExpr (m + 4)).2.2.2 (b + 38) 1) := by
        unfold F_X12_readFactor_L112
        refine Pnd_sign ?_
        rw [if_neg (fun z => z rfl)]
        exact PdF_fail.p
      refine (rT hx hE n17 h pn ?_).2
      intro q1 ν hq1 E1 h1
      have g := (L112 ν q1 (t + 1) _ E1 h1).2 (lxk x q)
      refine q_wp_mono g ?_
      rintro v ρ ⟨f, g1, g2⟩
      refine ⟨f, fun u hu => ?_, fun e he => ?_⟩
      · split at hu
        · rename_i e1
          obtain ⟨r, hr, h2⟩ := thn_ok hu
          cases h2
          obtain ⟨rfl, h3⟩ := g1 r (by rw [if_pos e1]; exact hr)
          refine ⟨rfl, ?_⟩
          show rS ρ b x L k r.1 r.2.1 (12 - d) (ks ++ (tkq x q :: r.2.2.2.1))
          rw [List.append_cons]; exact h3
        · cases hu
      · split at he
        · rename_i e1
          cases hr : pB2 x (opL x d) (lxk x q) q1 (t + 1) with
          | error e' => rw [hr] at he; cases he; exact g2 _ (by rw [if_pos e1]; exact hr)
          | ok r => rw [hr] at he; cases he
        · rename_i e1
          exact g2 e (by rw [if_neg e1]; exact he)
    by_cases h2 : rkk (lxk x q) = 2
    · have l16 := (rkk_w hne).mp h2
      obtain ⟨_, w8, w9, _⟩ := rvv_w (n := lxv x q) l16 hnn
      have hv : mI μ (64 * 12 + 39) (b + 38) = rvv (lxk x q) (lxv x q) := h.1.2.2.2 (h17w l16) hne
      rw [if_neg (fun z => z h2), wp_bn, xgI12 hE.1, hv, wp_ite]
      by_cases e14 : lxk x q = 14
      · rw [if_pos (w8.mpr e14)]; exact L93 (Or.inl e14)
      rw [if_neg (fun z => e14 (w8.mp z)), wp_bn, xgI12 hE.1, hv, wp_ite]
      by_cases e15 : lxk x q = 15
      · rw [if_neg (fun z => z (w9.mpr e15))]; exact L93 (Or.inr e15)
      · rw [if_pos (fun z => e15 (w9.mp z))]; exact L97 (fun z => z.elim e14 e15)
    · rw [if_pos h2]
      refine L97 fun z => h2 ((rkk_w hne).mpr ?_)
      rcases z with z | z <;> rw [z] <;> decide
  by_cases h2 : rkk (lxk x q) = 2
  · have l16 := (rkk_w hne).mp h2
    obtain ⟨w10, _⟩ := rvv_w (n := lxv x q) l16 hnn
    have hv : mI μ (64 * 12 + 39) (b + 38) = rvv (lxk x q) (lxv x q) := h.1.2.2.2 (h17w l16) hne
    rw [if_neg (fun z => z h2), wp_bn, xgI12 hE.1, hv, wp_ite]
    by_cases hw : ¬ lxk x q < 6 ∧ lxk x q < 12
    · rw [if_neg (fun z => by rcases w10.mp z with y | y; exact hw.1 y; exact y hw.2), if_pos hw]
      exact one _ _ (h17w l16)
    · rw [if_pos (w10.mpr (by
        by_cases z : lxk x q < 6
        · exact Or.inl z
        · exact Or.inr (fun y => hw ⟨z, y⟩)))]
      exact L30 hw
  · rw [if_pos h2]
    refine L30 fun z => h2 ((rkk_w hne).mpr ?_)
    have := z.2
    rw [Int32.lt_iff_toInt_lt] at this ⊢
    have z12 : (12 : Int32).toInt = 12 := rfl
    have z16 : (16 : Int32).toInt = 16 := rfl
    rw [z12] at this; rw [z16]; omega
