def Ak (b k : Nat) (μ ν : Mem) : Prop := (∀ i, i < 60 * k → aI ν 192 (b + 43) i = aI μ 192 (b + 43) i ∧ aI ν 200 (b + 44) i = aI μ 200 (b + 44) i) ∧ ∀ j, j < k → aI ν 168 (b + 40) j = aI μ 168 (b + 40) j ∧ aI ν 176 (b + 41) j = aI μ 176 (b + 41) j ∧ aI ν 184 (b + 42) j = aI μ 184 (b + 42) j
theorem Ak.tr {b k : Nat} {μ ν ρ : Mem} (h : Ak b k μ ν) (g : Ak b k ν ρ) : Ak b k μ ρ := ⟨fun i hi => ⟨(g.1 i hi).1.trans (h.1 i hi).1, (g.1 i hi).2.trans (h.1 i hi).2⟩, fun j hj => ⟨(g.2 j hj).1.trans (h.2 j hj).1, (g.2 j hj).2.1.trans (h.2 j hj).2.1, (g.2 j hj).2.2.trans (h.2 j hj).2.2⟩⟩
theorem Ak.le {b k k' : Nat} {μ ν : Mem} (h : Ak b k μ ν) (hk : k' ≤ k) : Ak b k' μ ν := ⟨fun i hi => h.1 i (by omega), fun j hj => h.2 j (by omega)⟩
theorem Ak.of {S : List Nat} {b k : Nat} {μ ν : Mem} (m : q_Fr S μ ν) (h2 : disj [2192, 2200, 2168, 2176, 2184] S = true) : Ak b k μ ν := ⟨fun i _ => ⟨by rw [m.ai 192 (disj_nc h2 (by decide))], by rw [m.ai 200 (disj_nc h2 (by decide))]⟩, fun j _ => ⟨by rw [m.ai 168 (disj_nc h2 (by decide))], by rw [m.ai 176 (disj_nc h2 (by decide))], by rw [m.ai 184 (disj_nc h2 (by decide))]⟩⟩
def ruIs (μ : Mem) (b k : Nat) (y : q_Ru) : Prop := aI μ 168 (b + 40) k = y.1 ∧ aI μ 176 (b + 41) k = y.2.1 ∧ DenR μ b k y.2.2
theorem ruIs.ak {b k n : Nat} {μ ν : Mem} {y : q_Ru} (h : ruIs μ b k y) (a : Ak b n μ ν) (hn : k < n) : ruIs ν b k y := by
  obtain ⟨h1, h2, h3⟩ := h
  obtain ⟨a1, a2, a3⟩ := a.2 k hn
  refine ⟨by rw [a1]; exact h1, by rw [a2]; exact h2, fun ρ hK e1 e2 e3 e4 => h3 ρ hK (e1.trans a3) (fun i hi => ?_) e3 e4⟩
  obtain ⟨c1, c2⟩ := a.1 (60 * k + i) (by omega)
  exact ⟨(e2 i hi).1.trans c1, (e2 i hi).2.trans c2⟩
theorem rkk0 {c : Int32} : rkk c = 0 ↔ c = 17 := by
  constructor
  · intro h
    unfold rkk at h
    split at h
    · assumption
    · split at h
      · exact absurd h (by decide)
      · split at h
        · exact absurd h (by decide)
        · split at h <;> exact absurd h (by decide)
  · intro h; rw [h]; rfl
theorem gdA {α : Type} {l m : List α} {d : α} {k : Nat} (h : k < l.length) : (l ++ m).getD k d = l.getD k d := by
  simp only [List.getD_eq_getElem?_getD, List.getElem?_append_left h]
theorem q_gdB {α : Type} {l m : List α} {d : α} {k : Nat} (h : l.length ≤ k) : (l ++ m).getD k d = m.getD (k - l.length) d := by
  simp only [List.getD_eq_getElem?_getD, List.getElem?_append_right h]
def RXS : List Nat := 777 :: RRS
theorem r_rulesL {b L : Nat} {tp : Nat → Int32} {x : q_Lx} (hx : x = lexOf tp L) : ∀ (g f n q : Nat) (μ : Mem), n + g ≥ 31 → n ≤ 30 → g + 1 < f → EnvR μ b tp L → wRd μ b x L n q → lxk x q ≠ -1 → q_wp (F_X12_rules_L47 f (b + 38) 1) μ (fun v ν => Md RXS μ ν ∧ Ak b n μ ν ∧ (∀ l, pTx x g n q = .ok l → n + l.length ≤ 30 ∧ v = q_i3 (n + l.length) - mI μ 777 (b + 38) ∧ mI ν 777 (b + 38) = q_i3 (n + l.length) ∧ mI ν 770 (b + 38) = 0 ∧ mI ν 771 (b + 38) = 0 ∧ ∀ i, i < l.length → ruIs ν b (n + i) ((l.map ruOf).getD i r0)) ∧ ∀ e, pTx x g n q = .error e → v = -1 ∧ mI ν 777 (b + 38) = mI μ 777 (b + 38) ∧ RFl ν b e)
  | 0, _, n, _, _, h1, h2, _, _, _, _ => absurd h1 (by omega)
  | g + 1, 0, n, _, _, h1, h2, h3, _, _, _ => absurd h3 (by omega)
  | g + 1, f + 1, n, q, μ, h1, h2, h3, hE, h, hne => by
    have kd : mI μ (64 * 12 + 38) (b + 38) = rkk (lxk x q) := h.1.2.2.1
    unfold F_X12_rules_L47
    rw [wp_ite, if_neg (by decide), wp_bn, xgI12 hE.1, kd, wp_ite]
    by_cases e17 : lxk x q = 17
    · have er : pTx x (g + 1) n q = .ok [] := by show (if lxk x q = 17 then _ else _) = _; rw [if_pos e17]
      rw [if_pos (rkk0.mpr e17)]
      unfold F_X12_rules_L66
      rw [wp_ite, if_pos (by decide), wp_bn, xgI12 hE.1, show mI μ (64 * 12 + 41) (b + 38) = q_i3 n from h.2.2.1, wp_bn, xgI12 hE.1, wp_bn, xgI12 hE.1, show mI μ (64 * 12 + 41) (b + 38) = q_i3 n from h.2.2.1, wp_bn, xwI12 hE.1, wp_rt]
      have m1 : Md [777] μ (sI μ (64 * 12 + 9) (b + 38) (q_i3 n)) := Md.sI (by rw [kk12 hE.1]; omega)
      refine ⟨m1.wk rfl, Ak.of m1.1 rfl, fun l hl => ?_, fun e he => (by rw [er] at he; cases he)⟩
      rw [er] at hl; cases hl
      exact ⟨h2, rfl, by rw [mI_sI', if_pos ⟨rfl, rfl⟩]; rfl, by rw [m1.1.i 770 rfl]; exact h.2.2.2.1, by rw [m1.1.i 771 rfl]; exact h.2.2.2.2, fun i hi => absurd hi (Nat.not_lt_zero _)⟩
    have er : pTx x (g + 1) n q = thn (pRul x n q) fun u => thn (pTx x g (n + 1) u.1) fun l => .ok ((u.2.1, u.2.2.1, u.2.2.2) :: l) := by show (if lxk x q = 17 then _ else _) = _; rw [if_neg e17]
    rw [if_neg (fun z => e17 (rkk0.mp z)), wp_bn, xpR12 hE.1, wp_bn]
    refine q_wp_mono (r_ruleRead hx hE h hne h2) ?_
    rintro v μ1 ⟨f1, g1, g2⟩
    have E1 := hE.fk f1
    have z777 : mI μ1 777 (b + 38) = mI μ 777 (b + 38) := by rw [f1.1.1.i 777 rfl]
    have A1 : Ak b n μ μ1 := f1.2
    have stop : ∀ (f : Nat) (ν : Mem), 0 < f → q_wp (F_X12_rules_L47 f (b + 38) 0) ν (fun v ρ => v = -1 ∧ ρ = ν) := by
      intro f ν hf
      obtain ⟨f, rfl⟩ : ∃ f', f = f' + 1 := ⟨f - 1, by omega⟩
      unfold F_X12_rules_L47 F_X12_rules_L66
      rw [wp_ite, if_pos rfl, wp_ite, if_neg (fun z => z rfl), wp_rt]
      exact ⟨rfl, rfl⟩
    cases hr : pRul x n q with
    | error e =>
      rw [hr, thn_er] at er
      rcases g2 e hr with ⟨rfl, hF⟩ | ⟨rfl, hP⟩
      · refine q_wp_mono (stop f μ1 (by omega)) ?_
        rintro v ν ⟨rfl, rfl⟩
        refine ⟨f1.1.wk rfl, A1, fun l hl => (by rw [er] at hl; cases hl), fun e' he => ?_⟩
        rw [er] at he; cases he
        exact ⟨rfl, z777, hF⟩
      · obtain ⟨f, rfl⟩ : ∃ f', f = f' + 1 := ⟨f - 1, by omega⟩
        unfold F_X12_rules_L47
        rw [wp_ite, if_neg (by decide), wp_bn, xgI12 E1.1, show mI μ1 (64 * 12 + 38) (b + 38) = 4 from hP.2.1, wp_ite, if_neg (by decide), wp_bn, xpR12 E1.1, wp_bn]
        refine q_wp_mono (rPd_rule (k := n) E1 hP) ?_
        rintro v μ2 ⟨rfl, f2, hF⟩
        have f2' := Fk.fp f2
        refine q_wp_mono (stop f μ2 (by omega)) ?_
        rintro v ν ⟨rfl, rfl⟩
        refine ⟨(f1.1.tr f2'.1).wk rfl, A1.tr f2'.2, fun l hl => (by rw [er] at hl; cases hl), fun e' he => ?_⟩
        rw [er] at he; cases he
        exact ⟨rfl, by rw [f2'.1.1.i 777 rfl]; exact z777, hF⟩
    | ok u =>
      obtain ⟨rfl, w1, hne1, ru1⟩ := g1 u hr
      rw [hr, thn_go] at er
      have hn30 : n < 30 := by
        have hxo : lOK x := by subst hx; exact (lex_ok tp L).1
        exact (rul_good hxo hr).2
      refine q_wp_mono (r_rulesL hx g f (n + 1) u.1 μ1 (by omega) (by omega) (by omega) E1 w1 hne1) ?_
      rintro v ν ⟨m2, A2, k1, k2⟩
      have A2' := A2.le (k' := n) (by omega)
      refine ⟨(f1.1.tr m2).wk rfl, A1.tr A2', fun l hl => ?_, fun e he => ?_⟩
      · rw [er] at hl
        obtain ⟨l', hl', h5⟩ := thn_ok hl
        cases h5
        obtain ⟨b1, b2, b3, b4, b5, b6⟩ := k1 l' hl'
        rw [List.length_cons]
        refine ⟨by omega, by rw [b2, z777]; congr 2; omega, by rw [b3]; congr 1; omega, b4, b5, fun i hi => ?_⟩
        cases i with
        | zero => exact ruIs.ak (y := ruOf (u.2.1, u.2.2.1, u.2.2.2)) ru1 A2 (by omega)
        | succ i =>
          have := b6 i (by omega)
          rw [show n + (i + 1) = n + 1 + i by omega]
          exact this
      · rw [er] at he
        cases ht : pTx x g (n + 1) u.1 with
        | ok l => rw [ht, thn_go] at he; cases he
        | error e' =>
          rw [ht, thn_er] at he; cases he
          obtain ⟨b1, b2, b3⟩ := k2 e ht
          exact ⟨b1, b2.trans z777, b3⟩
theorem r_rules {μ : Mem} {b c : Nat} {s : q_St} (hK : K0 μ b) (hT' : TT μ) (hA : q_AR μ b s) (hI : Iv s c) : q_wp (F_X12_rules (b + 38)) μ (fun r ν => r = (fRules s).1 ∧ rOK μ b (fRules s).2 0 ν) := by
  obtain ⟨hM, hL, hO, hT, hD, hR, hN, hU, hP⟩ := id hA
  have h600 : (sP' s).1 ≤ 600 := hI.2.2.2.2.2.2.2.2
  obtain ⟨u1, hU30, u3⟩ := hU
  obtain ⟨p1, p2, p3, p4⟩ := hP
  obtain ⟨R, eR⟩ : ∃ R, R = txOf (sP' s) (sU s).length := ⟨_, rfl⟩
  have eF : fRules s = rulesR s R := by rw [eR]; rfl
  rw [eF]
  unfold F_X12_rules
  have kr : mK μ (b + 38) ≠ 0 := by rw [kk12 hK]; omega
  have hKk : ∀ {S : List Nat} {ν : Mem}, Md S μ ν → K0 ν b := fun m => m.k0 hK
  have m1 : Md [803, 808, 769, 770, 771, 805] μ (sI (sI (sI (sI (sI (sI μ 803 (b + 38) 0) 808 (b + 38) (q_i3 (sP' s).1)) 769 (b + 38) 0) 770 (b + 38) 0) 771 (b + 38) 0) 805 (b + 38) 0) := ((((((Md.sI (f := 803) (v := 0) kr).tr (Md.sI (f := 808) (v := q_i3 (sP' s).1) kr)).tr (Md.sI (f := 769) (v := 0) kr)).tr (Md.sI (f := 770) (v := 0) kr)).tr (Md.sI (f := 771) (v := 0) kr)).tr (Md.sI (f := 805) (v := 0) kr)).wk rfl
  obtain ⟨μ1, e1⟩ : ∃ μ1, μ1 = sI (sI (sI (sI (sI (sI μ 803 (b + 38) 0) 808 (b + 38) (q_i3 (sP' s).1)) 769 (b + 38) 0) 770 (b + 38) 0) 771 (b + 38) 0) 805 (b + 38) 0 := ⟨_, rfl⟩
  have z803 : mI μ1 803 (b + 38) = 0 := by rw [e1]; simp [mI_sI']
  have z808 : mI μ1 808 (b + 38) = q_i3 (sP' s).1 := by rw [e1]; simp [mI_sI']
  have z769 : mI μ1 769 (b + 38) = 0 := by rw [e1]; simp [mI_sI']
  have z770 : mI μ1 770 (b + 38) = 0 := by rw [e1]; simp [mI_sI']
  have z771 : mI μ1 771 (b + 38) = 0 := by rw [e1]; simp [mI_sI']
  have z805 : mI μ1 805 (b + 38) = q_i3 0 := by rw [e1]; simp [mI_sI']; rfl
  have e769 : mI (sI μ 803 (b + 38) 0) 769 (b + 38) = q_i3 (sP' s).1 := by rw [mI_sI', if_neg (fun z => absurd z.1 (by omega))]; exact p1
  simp (maxSteps := 2000000) (disch := first | assumption | omega | (simp only [K0_sI, K0_sL, K0_tI, K0_tL, K0_nE]; assumption)) only [wp_bn, xgI11, xgL11, xwI11, xpR11, xgI4, xgL4, xwI4, xpR4, xgI7, xgL7, xwI7, xpR7, xgI12, xgL12, xwI12, xpR12, xgP11_0, xgP11_1, xgP11_2, xgP11_3, xgP11_4, xgP11_5, xgP11_6, xgP11_7, xgP4_0, xl115, xs115, xgP4_9, xl120, xs120, xgP7_0, xgP7_1, xl136, xs136, xgP7_2, xl144, xs144, xgP12_0, xl160, xs160, xgP12_4, xl168, xs168, xgP12_5, xl176, xs176, xgP12_6, xl184, xs184, xgP12_7, xl192, xs192, xgP12_8, xl200, xs200, xgP12_11, xl209, xs209, xgP12_12, xl218, xs218, xgP12_13, xl226, xs226, xgP12_14, xl232, xs232, xgP12_15, xl241, xs241, xgP12_16, xl248, xs248, xgP12_17, xl256, xs256, xgP12_18, xl264, xs264, xgP12_19, xl274, xs274, xgP12_20, xl280, xs280, xgP12_22, xl288, xs288, xgP12_25, xl296, xs296, xgP12_26, xl305, xs305, xgP12_27, xl312, xs312, xgP12_28, xl321, xs321, xgP12_29, xl328, xs328, xgP12_31, xl336, xs336, xgP12_33, xl344, xs344, xgP12_46, xl352, xs352, xgP12_47, xl360, xs360, xgP2_0, xpL2_0, xgP2_1, xpL2_1, xgP2_2, xpL2_2, xgI2, xwZ2, xpR2, xmo, xpL_5, xpL_33, xpL_34, xpL_35, xpL_36, xpL_37, Nat.reduceMul, Nat.reduceAdd, e769]
  rw [← e1] at m1 ⊢
  have K1 := m1.k0 hK
  have E1 : EnvR μ1 b (sP' s).2.1 (sP' s).1 := ⟨K1, m1.tt hT', z808, h600, by rw [m1.1.ai 160 rfl]; exact p4⟩
  refine q_wp_mono (r_next E1 (Nat.zero_le _) z805) ?_
  rintro _ μ2 ⟨m2, T2⟩
  have E2 := E1.md m2 rfl
  have u2 : mI μ2 777 (b + 38) = q_i3 (sU s).length := by rw [m2.1.i 777 rfl, m1.1.i 777 rfl]; exact u1
  rw [xgI12 E2.1, show mI μ2 (64 * 12 + 9) (b + 38) = q_i3 (sU s).length from u2, xwI12 E2.1]
  have m3 : Md [809] μ2 (sI μ2 (64 * 12 + 41) (b + 38) (q_i3 (sU s).length)) := Md.sI (by rw [kk12 E2.1]; omega)
  obtain ⟨μ3, e3⟩ : ∃ μ3, μ3 = sI μ2 (64 * 12 + 41) (b + 38) (q_i3 (sU s).length) := ⟨_, rfl⟩
  have z809 : mI μ3 809 (b + 38) = q_i3 (sU s).length := by rw [e3, mI_sI', if_pos ⟨rfl, rfl⟩]
  rw [← e3] at m3 ⊢
  have E3 := E2.md m3 rfl
  have T3 : rTok μ3 b (lexOf (sP' s).2.1 (sP' s).1) 0 := ⟨by rw [m3.1.i 804 rfl]; exact T2.1, by rw [m3.1.i 805 rfl]; exact T2.2.1, by rw [m3.1.i 806 rfl]; exact T2.2.2.1, by rw [m3.1.i 807 rfl]; exact T2.2.2.2⟩
  have m23 := m2.tr m3
  have y770 : mI μ3 770 (b + 38) = 0 := by rw [m23.1.i 770 rfl]; exact z770
  have y771 : mI μ3 771 (b + 38) = 0 := by rw [m23.1.i 771 rfl]; exact z771
  have w3 : wRd μ3 b (lexOf (sP' s).2.1 (sP' s).1) (sP' s).1 (sU s).length 0 := ⟨T3, Nat.zero_le _, z809, y770, y771⟩
  have m13 := m1.tr m23
  have A13 : Ak b 30 μ μ3 := Ak.of m13.1 rfl
  have u777 : mI μ3 777 (b + 38) = q_i3 (sU s).length := by rw [m13.1.i 777 rfl]; exact u1
  have old : ∀ ν, Ak b (sU s).length μ3 ν → ∀ k, k < (sU s).length → ruIs ν b k ((sU s).getD k r0) := fun ν a k hk => (ruIs.ak (u3 k hk) A13 (by omega)).ak a hk
  have bad : ∀ e ν, R = .error e → Md RXS μ3 ν → Ak b (sU s).length μ3 ν → mI ν 777 (b + 38) = q_i3 (sU s).length → RFl ν b e → (-1 : Int32) = (rulesR s R).1 ∧ rOK μ b (rulesR s R).2 0 ν := by
    intro e ν he hm ha h7 hF
    rw [he]
    refine ⟨rfl, ?_⟩
    have hC := m13.tr hm
    refine ⟨⟨hM.fr hC.1 rfl, hL.fr hC.1 rfl, hO.fr hC.1 rfl, hT.fr hC.1 rfl, hD.fr hC.1 rfl, hR.fr hC.1 rfl, hN.fr hC.1 rfl, ⟨h7, hU30, fun k hk => old ν ha k hk⟩, ?_⟩, hC.wk rfl, by rw [hm.1.i 803 rfl, m23.1.i 803 rfl]; exact z803⟩
    exact ⟨by rw [hm.1.i 769 rfl, m23.1.i 769 rfl]; exact z769, hF.1, hF.2, fun i hi => absurd hi (Nat.not_lt_zero _)⟩
  by_cases hb : lxk (lexOf (sP' s).2.1 (sP' s).1) 0 = -1
  · have er : R = .error (1, lxf (lexOf (sP' s).2.1 (sP' s).1) 0) := by rw [eR]; unfold txOf; rw [if_pos hb]
    have hP3 : RPd μ3 b (1, lxf (lexOf (sP' s).2.1 (sP' s).1) 0) := ⟨rfl, by rw [T3.2.2.1, hb]; decide, T3.1, y770⟩
    rw [show FU = 99998 + 1 + 1 from rfl]
    unfold F_X12_rules_L47
    rw [wp_ite, if_neg (by decide), wp_bn, xgI12 E3.1, show mI μ3 (64 * 12 + 38) (b + 38) = 4 from hP3.2.1, wp_ite, if_neg (by decide), wp_bn, xpR12 E3.1, wp_bn]
    refine q_wp_mono (rPd_rule (k := (sU s).length) E3 hP3) ?_
    rintro v μ4 ⟨rfl, f4, hF⟩
    have f4' := Fk.fp f4
    unfold F_X12_rules_L47 F_X12_rules_L66
    rw [wp_ite, if_pos rfl, wp_ite, if_neg (fun z => z rfl), wp_rt]
    exact bad _ μ4 er (f4'.1.wk rfl) f4'.2 (by rw [f4'.1.1.i 777 rfl]; exact u777) hF
  have er : R = pTx (lexOf (sP' s).2.1 (sP' s).1) 31 (sU s).length 0 := by rw [eR]; unfold txOf; rw [if_neg hb]
  refine q_wp_mono (r_rulesL rfl 31 FU (sU s).length 0 μ3 (by omega) hU30 (by unfold FU; omega) E3 w3 hb) ?_
  rintro v ν ⟨hm, ha, k1, k2⟩
  cases hr : R with
  | error e =>
    obtain ⟨rfl, b2, b3⟩ := k2 e (er.symm.trans hr)
    have := bad e ν hr hm ha (b2.trans u777) b3
    rw [hr] at this; exact this
  | ok l =>
    obtain ⟨b1, b2, b3, b4, b5, b6⟩ := k1 l (er.symm.trans hr)
    refine ⟨by rw [b2, u777, i3_sub (by omega)]; show _ = q_i3 l.length; congr 1; omega, ?_⟩
    have hC := m13.tr hm
    have hlen : (sU s ++ l.map ruOf).length = (sU s).length + l.length := by rw [List.length_append, List.length_map]
    refine ⟨⟨hM.fr hC.1 rfl, hL.fr hC.1 rfl, hO.fr hC.1 rfl, hT.fr hC.1 rfl, hD.fr hC.1 rfl, hR.fr hC.1 rfl, hN.fr hC.1 rfl, ⟨?_, ?_, ?_⟩, ?_⟩, hC.wk rfl, by rw [hm.1.i 803 rfl, m23.1.i 803 rfl]; exact z803⟩
    · show _ = q_i3 (sU s ++ l.map ruOf).length
      rw [hlen]; exact b3
    · show (sU s ++ l.map ruOf).length ≤ 30
      rw [hlen]; exact b1
    · show ∀ k, k < (sU s ++ l.map ruOf).length → ruIs ν b k ((sU s ++ l.map ruOf).getD k r0)
      intro k hk
      rw [hlen] at hk
      by_cases h : k < (sU s).length
      · rw [gdA h]; exact old ν ha k h
      · rw [q_gdB (by omega)]
        have := b6 (k - (sU s).length) (by omega)
        rw [show (sU s).length + (k - (sU s).length) = k by omega] at this
        exact this
    · exact ⟨by rw [hm.1.i 769 rfl, m23.1.i 769 rfl]; exact z769, b4, b5, fun i hi => absurd hi (Nat.not_lt_zero _)⟩

theorem inR_up {p : Int32} {n m : Nat} (h : q_inR p n) (hm : n ≤ m) : q_inR p m := ⟨h.1, by have := h.2; omega⟩
theorem nat_lt {p : Int32} {n : Nat} (h : q_inR p n) (hn : n < 2147483648) : q_nat p < n ∧ q_i3 (q_nat p) = p := by
  obtain ⟨i, hi, rfl⟩ := inR_i3 h
  unfold q_nat; rw [i3_toNat (by omega)]; exact ⟨hi, rfl⟩
theorem IM.of {v : q_VM} {B : Int} {c : Nat} (h : IMb v B) (hB : B ≤ 100 * (c : Int)) : IM v c := by
  obtain ⟨h1, h2, h3, h4, h5⟩ := h
  exact ⟨h1, h2, h3, fun i hi j hj => by have := h4 i hi j hj; omega, h5⟩
theorem IM.up {v : q_VM} {c : Nat} (h : IM v c) : IM v (c + 1) := IM.of h.b (by omega)
theorem q_IL.up {v : VL} {n nt c m nt' c' : Nat} (h : q_IL v n nt c) (h1 : n ≤ m) (h2 : nt + c ≤ nt' + c') : q_IL v m nt' c' := fun j hj => by
  obtain ⟨a1, a2, a3⟩ := h j hj
  exact ⟨by omega, fun q hq => ⟨inR_up (a2 q hq).1 h1, (a2 q hq).2⟩, a3⟩
theorem IO_up {v : q_VO} {n c m c' : Nat} (h : IO' v n c) (h1 : n ≤ m) (h2 : c ≤ c') : IO' v m c' := ⟨h.1, by have := h.2.1; omega, fun x hx => ⟨inR_up (h.2.2 x hx).1 h1, (h.2.2 x hx).2⟩⟩
theorem IT.up {v : q_VT} {n m t t' : Nat} (h : IT v n t) (h1 : n ≤ m) (h2 : t ≤ t') : IT v m t' := ⟨h.1, fun i hi => by
  obtain ⟨a1, a2, a3, a4, a5, a6, a7, a8, a9⟩ := h.2.1 i hi
  exact ⟨a1, a2, a3, a4, a5, inR_up a6 h1, inR_up a7 h1, inR_up a8 (by omega), a9⟩, h.2.2⟩
theorem ID.up {v : VD} {n m : Nat} (h : ID v n) (h1 : n ≤ m) : ID v m := ⟨h.1, h.2.1, fun d hd => ⟨Nat.le_trans (h.2.2.1 d hd).1 h1, (h.2.2.1 d hd).2⟩, h.2.2.2⟩
theorem IR.up {v : q_VT} {n m : Nat} (h : IR v n) (h1 : n ≤ m) : IR v m := ⟨h.1, fun t ht => ⟨inR_up (h.2 t ht).1 h1, (h.2 t ht).2⟩⟩
theorem q_IN.up {v : q_VT} {n m r r' : Nat} {d : VD} (h : q_IN v n r d) (h1 : n ≤ m) (h2 : r ≤ r') : q_IN v m r' d := ⟨h.1, fun t ht => by
  obtain ⟨a1, a2, a3, a4⟩ := h.2 t ht
  exact ⟨inR_up a1 h1, inR_up a2 h1, inR_up a3 h2, a4⟩⟩
theorem Iv.up {s : q_St} {c : Nat} (h : Iv s c) : Iv s (c + 1) := by
  obtain ⟨i1, i2, i3', i4, i5, i6, i7, i8, i9⟩ := h
  exact ⟨i1.up, i2.up (Nat.le_refl _) (by omega), IO_up i3' (Nat.le_refl _) (by omega), i4, i5, i6, i7, i8, i9⟩
theorem k_end {s : q_St} {c : Nat} {p : Int32} (h : Iv s c) : Iv (fEnd s p).2 (c + 1) := by
  unfold fEnd
  split
  · rename_i hp
    obtain ⟨i1, i2, i3', i4, i5, i6, i7, i8, i9⟩ := h.up
    refine ⟨i1, i2, i3', i4, i5, i6, i7, i8, ?_⟩
    have := (nat_lt hp (by omega)).1
    show q_nat p ≤ 600
    omega
  · exact h.up
theorem k_feed {s : q_St} {n : Nat} {a c d e f : Int32} (h : Iv s n) : Iv (fFeed s a c d e f).2 (n + 1) := by
  unfold fFeed
  split
  · rename_i hp
    obtain ⟨i1, i2, i3', i4, i5, i6, i7, i8, i9⟩ := h.up
    exact ⟨i1, i2, i3', i4, i5, i6, i7, i8, hp⟩
  · exact h.up
theorem k_rules {s : q_St} {c : Nat} (h : Iv s c) (hu : (sU (fRules s).2).length ≤ 30) : Iv (fRules s).2 (c + 1) := by
  obtain ⟨i1, i2, i3', i4, i5, i6, i7, i8, i9⟩ := h.up
  unfold fRules at hu ⊢
  cases hr : txOf (sP' s) (sU s).length with
  | error e => exact ⟨i1, i2, i3', i4, i5, i6, i7, i8, Nat.zero_le _⟩
  | ok l => rw [hr] at hu; exact ⟨i1, i2, i3', i4, i5, i6, i7, hu, Nat.zero_le _⟩
theorem IMb.paid {v : q_VM} {B : Int} {x : Nat} {y : Int64} (h : IMb v B) (hx : x < vN v) : IMb (mPaid v x y) B := by
  obtain ⟨h1, h2, h3, h4, h5⟩ := h
  refine ⟨h1, fun i hi h12 => ?_, h3, h4, h5⟩
  obtain ⟨a1, a2⟩ := h2 i hi h12
  refine ⟨?_, a2⟩
  have hi : vN v ≤ i := hi
  show q_upd (vPd v) x y i = 0
  unfold q_upd; rw [if_neg (by omega)]; exact a1
theorem k_pay {s : q_St} {c : Nat} {p q : Int32} (h : Iv s c) : Iv (fPay s p q).2 (c + 1) := by
  unfold fPay
  split
  · rename_i hp
    obtain ⟨i1, i2, i3', i4, i5, i6, i7, i8, i9⟩ := h.up
    have h12 := i1.1
    exact ⟨IM.of (i1.b.paid (nat_lt hp.1 (by omega)).1) (by omega), i2, i3', i4, i5, i6, i7, i8, i9⟩
  · exact h.up
theorem k_member {s : q_St} {c : Nat} (h : Iv s c) : Iv (fMember s).2 (c + 1) := by
  unfold fMember
  split
  · rename_i hp
    obtain ⟨i1, i2, i3', i4, i5, i6, i7, i8, i9⟩ := h.up
    refine ⟨⟨by show vN (sM s) + 1 ≤ 12; omega, fun i hi h12 => i1.2.1 i (by have hi : vN (sM s) + 1 ≤ i := hi; omega) h12, i1.2.2⟩, i2.up (Nat.le_succ _) (Nat.le_refl _), IO_up i3' (Nat.le_succ _) (Nat.le_refl _), i4.up (Nat.le_succ _) (Nat.le_refl _), i5.up (Nat.le_succ _), i6.up (Nat.le_succ _), i7.up (Nat.le_succ _) (Nat.le_refl _), i8, i9⟩
  · exact h.up
theorem k_receipt {s : q_St} {c : Nat} {p g l : Int32} (h : Iv s c) : Iv (fReceipt s p g l).2 (c + 1) := by
  unfold fReceipt
  split
  · rename_i hp
    obtain ⟨i1, i2, i3', i4, i5, i6, i7, i8, i9⟩ := h.up
    refine ⟨i1, i2, i3', i4, i5, ⟨by show (sR s).1 + 1 ≤ 60; omega, fun t ht => ?_⟩, i7.up (Nat.le_refl _) (Nat.le_succ _), i8, i9⟩
    have ht : t < (sR s).1 + 1 := ht
    show q_inR (q_upd (sR s).2 (sR s).1 (rRow p g l) t 2) (vN (sM s)) ∧ (q_upd (sR s).2 (sR s).1 (rRow p g l) t 3 = 0 ∨ q_upd (sR s).2 (sR s).1 (rRow p g l) t 3 = 1)
    unfold q_upd
    split
    · exact ⟨hp.1, Or.inr rfl⟩
    · exact i6.2 t (by omega)
  · exact h.up
theorem k_cancel {s : q_St} {c : Nat} {m t : Int32} (h : Iv s c) : Iv (fCancel s m t).2 (c + 1) := by
  unfold fCancel
  split
  · exact h.up
  · obtain ⟨i1, i2, i3', i4, i5, i6, i7, i8, i9⟩ := h.up
    refine ⟨i1, i2, ⟨Nat.le_trans (List.length_eraseIdx_le _ _) i3'.1, i3'.2.1, fun x hx => i3'.2.2 x (List.mem_of_mem_eraseIdx hx)⟩, i4, i5, i6, i7, i8, i9⟩
theorem k_deliver {s : q_St} {c : Nat} {t : Int32} (h : Iv s c) : Iv (fDeliver s t).2 (c + 1) := by
  unfold fDeliver
  split
  · obtain ⟨i1, i2, i3', i4, i5, i6, i7, i8, i9⟩ := h.up
    refine ⟨i1, fun j hj => ?_, ⟨Nat.le_trans (List.length_filter_le _ _) i3'.1, i3'.2.1, fun x hx => i3'.2.2 x (List.mem_filter.mp hx).1⟩, i4, i5, i6, i7, i8, i9⟩
    obtain ⟨a1, a2, a3⟩ := i2 j hj
    refine ⟨a1, a2, ?_⟩
    show q_upd (sG s).2 t.toNatClampNeg 1 j = 0 ∨ q_upd (sG s).2 t.toNatClampNeg 1 j = 1
    unfold q_upd
    split
    · exact Or.inr rfl
    · exact a3
  · exact h.up
theorem k_right {s : q_St} {c : Nat} {m d p : Int32} (h : Iv s c) : Iv (fRight s m d p).2 (c + 1) := by
  unfold fRight
  split
  · rename_i hp
    obtain ⟨h6, hpr, hd, hl, hne⟩ := hp
    obtain ⟨i1, i2, i3', i4, i5, i6, i7, i8, i9⟩ := h.up
    obtain ⟨b1, b2, b3, b4, b5⟩ := i5
    have eT : (q_i3 (dT (sD s))).toInt = dT (sD s) := i3_toInt (by omega)
    refine ⟨i1, i2, i3', i4, ⟨b1, ?_, b3, fun q hq => ?_, ?_⟩, i6, i7, i8, i9⟩
    · show (dRt (sD s) ++ [_]).length ≤ 100
      rw [List.length_append]; show (dRt (sD s)).length + 1 ≤ 100; omega
    · have hq : q ∈ dRt (sD s) ++ [(m, d, p, q_i3 (dT (sD s)))] := hq
      rcases List.mem_append.mp hq with h | h
      · exact b4 q h
      · rw [List.mem_singleton] at h; subst h
        exact ⟨h6, hd, hpr.1, hpr.2, by show (q_i3 (dT (sD s))).toInt ≤ dT (sD s); rw [eT]; exact Int.le_refl _, by show d.toInt < (q_i3 (dT (sD s))).toInt; rw [eT]; exact hd.2, hne⟩
    · show (dRt (sD s) ++ [(m, d, p, q_i3 (dT (sD s)))]).Pairwise _
      rw [List.pairwise_append]
      refine ⟨b5, List.pairwise_singleton _ _, fun x hx y hy => ?_⟩
      rw [List.mem_singleton] at hy; subst hy
      show x.2.2.2.toInt ≤ (q_i3 (dT (sD s))).toInt
      rw [eT]; exact (b4 x hx).2.2.2.2.1
  · exact h.up

theorem bit1 (h : Int32) {n : Nat} (hh : q_inR h n) (hn : n ≤ 12) : ((((1 : Int32) <<< (h &&& 31)) >>> (h &&& 31)) &&& 1) = 1 := by
  obtain ⟨i, hi, rfl⟩ := inR_i3 hh
  have key : ∀ i : Fin 12, ((((1 : Int32) <<< (q_i3 i.1 &&& 31)) >>> (q_i3 i.1 &&& 31)) &&& 1) = 1 := by decide
  exact key ⟨i, by omega⟩
theorem bitk (x : BitVec 32) (k : Nat) (hk : k < 32) : ((x ||| (1#32 <<< k)).sshiftRight k) &&& 1#32 = 1#32 := by
  apply BitVec.eq_of_getLsbD_eq
  intro i hi
  rw [BitVec.getLsbD_and]
  by_cases h0 : i = 0
  · subst h0
    rw [BitVec.getLsbD_sshiftRight]
    simp [hk, BitVec.getLsbD_or, BitVec.getLsbD_shiftLeft]
  · have : (1#32).getLsbD i = false := by
      rw [BitVec.getLsbD_one]; simp [h0]
    rw [this, Bool.and_false]
theorem bit2 (x h : Int32) {n : Nat} (hh : q_inR h n) (hn : n ≤ 12) : (((x ||| ((1 : Int32) <<< (h &&& 31))) >>> (h &&& 31)) &&& 1) = 1 := by
  obtain ⟨i, hi, rfl⟩ := inR_i3 hh
  apply Int32.toBitVec_inj.mp
  rw [Int32.toBitVec_and, Int32.toBitVec_shiftRight, Int32.toBitVec_or, Int32.toBitVec_shiftLeft]
  have key : ∀ i : Fin 12, ((q_i3 i.1 &&& 31).toBitVec.smod 32) = BitVec.ofNat 32 i.1 ∧ (BitVec.ofNat 32 i.1).toNat = i.1 := by decide
  obtain ⟨k1, k2⟩ := key ⟨i, by omega⟩
  have k1 : ((q_i3 i &&& 31).toBitVec.smod 32) = BitVec.ofNat 32 i := k1
  have k2 : (BitVec.ofNat 32 i).toNat = i := k2
  rw [k1]
  have := bitk x.toBitVec i (by omega)
  rw [BitVec.sshiftRight_eq', BitVec.shiftLeft_eq', k2]
  exact this
theorem k_strike {s : q_St} {c : Nat} {p : Int32} (hc : c ≤ 600) (h : Iv s c) : Iv (fStrike s p).2 (c + 1) := by
  unfold fStrike
  split
  · rename_i hp
    obtain ⟨i1, i2, i3', i4, i5, i6, i7, i8, i9⟩ := h
    have h12 := i1.1
    have hnt := i4.1
    obtain ⟨ht, _⟩ := nat_lt hp.1 (by omega)
    generalize q_nat p = t at *
    obtain ⟨a1, a2, a3, a4, a5, a6, a7, a8, a9⟩ := i4.2.1 t ht
    have h0 := (nat_lt a1 (by omega)).1
    have h3 := (nat_lt a6 (by omega)).1
    have h4 := (nat_lt a7 (by omega)).1
    obtain ⟨m1, m2⟩ := mv_IM (p := (sT s).2 t 1) i1.b (by omega) h4 h3 h0 ⟨a4, a5⟩
    have l1 := mv_IL (si := q_nat ((sT s).2 t 3)) i2 i1.b (by omega) h4 (by omega) h0 ⟨a4, a5⟩ (by omega)
    refine ⟨IM.of m1 (by omega), ?_, ?_, ?_, ?_, ?_, ?_, i8, i9⟩
    · show q_IL (mvG (sM s) (sG s).1 _ _ _ _, (sG s).2) (vN (mvM (sM s) _ _ _ _ _)) (sT s).1 (c + 1)
      rw [m2]; exact l1.up (Nat.le_refl _) (by omega)
    · show IO' (sO s) (vN (mvM (sM s) _ _ _ _ _)) (c + 1)
      rw [m2]; exact IO_up i3' (Nat.le_refl _) (by omega)
    · show IT ((sT s).1, upd2 (sT s).2 t 6 1) (vN (mvM (sM s) _ _ _ _ _)) (dT (sD s))
      rw [m2]
      have u : ∀ i w, w ≠ 6 → upd2 (sT s).2 t 6 1 i w = (sT s).2 i w := fun i w hw => by unfold upd2; rw [if_neg (fun z => hw z.2)]
      refine ⟨i4.1, fun i hi => ?_, fun i hi => ?_⟩
      · obtain ⟨b1, b2, b3, b4, b5, b6, b7, b8, b9⟩ := i4.2.1 i hi
        show q_inR (upd2 (sT s).2 t 6 1 i 0) 6 ∧ 1 ≤ (upd2 (sT s).2 t 6 1 i 1).toInt ∧ (upd2 (sT s).2 t 6 1 i 1).toInt ≤ 10000 ∧ 1 ≤ (upd2 (sT s).2 t 6 1 i 2).toInt ∧ (upd2 (sT s).2 t 6 1 i 2).toInt ≤ 50 ∧ q_inR (upd2 (sT s).2 t 6 1 i 3) _ ∧ q_inR (upd2 (sT s).2 t 6 1 i 4) _ ∧ q_inR (upd2 (sT s).2 t 6 1 i 5) _ ∧ _
        rw [u i 0 (by omega), u i 1 (by omega), u i 2 (by omega), u i 3 (by omega), u i 4 (by omega), u i 5 (by omega)]
        refine ⟨b1, b2, b3, b4, b5, b6, b7, b8, ?_⟩
        show upd2 (sT s).2 t 6 1 i 6 = 0 ∨ upd2 (sT s).2 t 6 1 i 6 = 1
        unfold upd2; split
        · exact Or.inr rfl
        · exact b9
      · show (upd2 (sT s).2 t 6 1 i 5).toInt ≤ (upd2 (sT s).2 t 6 1 (i + 1) 5).toInt
        rw [u i 5 (by omega), u (i + 1) 5 (by omega)]; exact i4.2.2 i hi
    · show ID (sD s) (vN (mvM (sM s) _ _ _ _ _))
      rw [m2]; exact i5
    · show IR (sR s) (vN (mvM (sM s) _ _ _ _ _))
      rw [m2]; exact i6
    · show q_IN (q_sN s) (vN (mvM (sM s) _ _ _ _ _)) _ _
      rw [m2]; exact i7
  · exact h.up
theorem IR.set3 {v : q_VT} {n r : Nat} {x : Int32} (h : IR v n) (hx : x = 0 ∨ x = 1) : IR (v.1, upd2 v.2 r 3 x) n := ⟨h.1, fun t ht => by
  show q_inR (upd2 v.2 r 3 x t 2) n ∧ (upd2 v.2 r 3 x t 3 = 0 ∨ upd2 v.2 r 3 x t 3 = 1)
  unfold upd2
  rw [if_neg (fun z => absurd z.2 (by omega))]
  refine ⟨(h.2 t ht).1, ?_⟩
  split
  · exact hx
  · exact (h.2 t ht).2⟩
theorem IR.set2 {v : q_VT} {n r : Nat} {x : Int32} (h : IR v n) (hx : q_inR x n) : IR (v.1, upd2 v.2 r 2 x) n := ⟨h.1, fun t ht => by
  show q_inR (upd2 v.2 r 2 x t 2) n ∧ (upd2 v.2 r 2 x t 3 = 0 ∨ upd2 v.2 r 2 x t 3 = 1)
  unfold upd2
  refine ⟨?_, by rw [if_neg (fun z => absurd z.2 (by omega))]; exact (h.2 t ht).2⟩
  split
  · exact hx
  · exact (h.2 t ht).1⟩
theorem q_IN.set0 {v : q_VT} {n r i : Nat} {d : VD} {x : Int32} (h : q_IN v n r d) (hx : x ≠ 1) : q_IN (v.1, upd2 v.2 i 0 x) n r d := ⟨h.1, fun t ht => by
  obtain ⟨a1, a2, a3, a4, a5, a6⟩ := h.2 t ht
  have u : ∀ t w, w ≠ 0 → upd2 v.2 i 0 x t w = v.2 t w := fun t w hw => by unfold upd2; rw [if_neg (fun z => hw z.2)]
  show q_inR (upd2 v.2 i 0 x t 1) n ∧ q_inR (upd2 v.2 i 0 x t 2) n ∧ q_inR (upd2 v.2 i 0 x t 3) r ∧ q_inR (upd2 v.2 i 0 x t 5) 6 ∧ ((upd2 v.2 i 0 x t 6 >>> (upd2 v.2 i 0 x t 1 &&& 31)) &&& 1 = 1) ∧ (upd2 v.2 i 0 x t 0 = 1 → 0 < dT d ∧ dSt d (dT d - 1) (upd2 v.2 i 0 x t 5).toNatClampNeg ≠ -1)
  rw [u t 1 (by omega), u t 2 (by omega), u t 3 (by omega), u t 5 (by omega), u t 6 (by omega)]
  refine ⟨a1, a2, a3, a4, a5, fun z => ?_⟩
  unfold upd2 at z
  split at z
  · exact absurd z hx
  · exact a6 z⟩
theorem lat_ne {v : VD} {n j : Nat} (hI : ID v n) (hj : j < 6) (h : lat v j ≠ -1) : 0 < dT v ∧ dSt v (dT v - 1) j ≠ -1 := by
  unfold lat at h
  by_cases h0 : dT v = 0
  · rw [if_pos h0] at h; exact absurd rfl h
  · rw [if_neg h0] at h
    have hb := hI.1
    obtain ⟨_, a2, _⟩ := st_lk (k := q_i3 (dT v)) hI hj (show dT v - 1 < dT v by omega) (fun z => by have := (i3_lt (by omega) (by omega)).mp z; omega)
    exact ⟨by omega, fun z => h (a2 z)⟩
theorem k_notice {s : q_St} {c : Nat} {p m r : Int32} (h : Iv s c) : Iv (fNotice s p m r).2 (c + 1) := by
  unfold fNotice
  split
  · rename_i hp
    obtain ⟨o1, o2, o3, o4, o5, o6, o7, o8, o9, o10⟩ := hp
    obtain ⟨i1, i2, i3', i4, i5, i6, i7, i8, i9⟩ := h.up
    have h12 := i1.1
    have hm := (nat_lt o2 (by omega)).1
    refine ⟨i1, i2, i3', i4, i5, i6.set3 (Or.inl rfl), ⟨by show (q_sN s).1 + 1 ≤ 80; omega, fun t ht => ?_⟩, i8, i9⟩
    have ht : t < (q_sN s).1 + 1 := ht
    obtain ⟨q, hq⟩ : ∃ q, q = ((sG s).1 (q_nat m)).getD 0 (0, 0) := ⟨_, rfl⟩
    have hqm : q_inR q.1 (vN (sM s)) := by
      have : q ∈ (sG s).1 (q_nat m) := by
        rw [hq]
        cases hl : (sG s).1 (q_nat m) with
        | nil => exact absurd hl o9
        | cons x l => exact List.mem_cons_self
      exact ((i2 (q_nat m) hm).2.1 q this).1
    show q_inR (q_upd (q_sN s).2 (q_sN s).1 (nRow (((sG s).1 (q_nat m)).getD 0 (0, 0)).1 p r m) t 1) (vN (sM s)) ∧ q_inR (q_upd (q_sN s).2 (q_sN s).1 (nRow (((sG s).1 (q_nat m)).getD 0 (0, 0)).1 p r m) t 2) (vN (sM s)) ∧ q_inR (q_upd (q_sN s).2 (q_sN s).1 (nRow (((sG s).1 (q_nat m)).getD 0 (0, 0)).1 p r m) t 3) (sR s).1 ∧ q_inR (q_upd (q_sN s).2 (q_sN s).1 (nRow (((sG s).1 (q_nat m)).getD 0 (0, 0)).1 p r m) t 5) 6 ∧ ((q_upd (q_sN s).2 (q_sN s).1 (nRow (((sG s).1 (q_nat m)).getD 0 (0, 0)).1 p r m) t 6 >>> (q_upd (q_sN s).2 (q_sN s).1 (nRow (((sG s).1 (q_nat m)).getD 0 (0, 0)).1 p r m) t 1 &&& 31)) &&& 1 = 1) ∧ (q_upd (q_sN s).2 (q_sN s).1 (nRow (((sG s).1 (q_nat m)).getD 0 (0, 0)).1 p r m) t 0 = 1 → 0 < dT (sD s) ∧ dSt (sD s) (dT (sD s) - 1) (q_upd (q_sN s).2 (q_sN s).1 (nRow (((sG s).1 (q_nat m)).getD 0 (0, 0)).1 p r m) t 5).toNatClampNeg ≠ -1)
    rw [← hq]
    unfold q_upd
    by_cases e : t = (q_sN s).1
    · rw [if_pos e]
      refine ⟨hqm, o1, o3, o2, bit1 q.1 hqm h12, fun _ => lat_ne i5 hm o8⟩
    · rw [if_neg e]
      exact i7.2 t (by omega)
  · exact h.up
theorem k_pass {s : q_St} {c : Nat} {p : Int32} (h : Iv s c) : Iv (fPass s p).2 (c + 1) := by
  unfold fPass
  split
  · rename_i hp
    obtain ⟨⟨o1, o2⟩, o3⟩ := hp
    obtain ⟨i1, i2, i3', i4, i5, i6, i7, i8, i9⟩ := h.up
    have h12 := i1.1
    have hnn := i7.1
    have ht := (nat_lt o1 (by omega)).1
    generalize q_nat p = i at *
    obtain ⟨a1, a2, a3, a4, a5, a6⟩ := i7.2 i ht
    have hm := (nat_lt a4 (by omega)).1
    have hto : q_inR (psT s i) (vN (sM s)) := by
      have : (psL s i).getD (psX s i) (0, 0) ∈ psL s i := by
        rw [List.getD_eq_getElem?_getD, List.getElem?_eq_getElem o3]; exact List.getElem_mem o3
      exact ((i2 _ hm).2.1 _ this).1
    have e : vN (mPaid (sM s) (q_nat ((q_sN s).2 i 1)) 0) = vN (sM s) := rfl
    refine ⟨IM.of (IMb.paid (i1.b.paid (nat_lt a1 (by omega)).1) (nat_lt hto (by omega)).1) (by omega), i2, i3', i4, i5, i6, ⟨i7.1, fun t ht => ?_⟩, i8, i9⟩
    obtain ⟨b1, b2, b3, b4, b5, b6⟩ := i7.2 t ht
    obtain ⟨to, eto⟩ : ∃ to, to = psT s i := ⟨_, rfl⟩
    rw [← eto] at hto ⊢
    obtain ⟨R, eR⟩ : ∃ R, R = upd2 (upd2 (upd2 (q_sN s).2 i 1 to) i 4 ((q_sN s).2 i 4 + 1)) i 6 ((q_sN s).2 i 6 ||| ((1 : Int32) <<< (to &&& 31))) := ⟨_, rfl⟩
    have u : ∀ t w, R t w = if t = i ∧ w = 6 then (q_sN s).2 i 6 ||| ((1 : Int32) <<< (to &&& 31)) else if t = i ∧ w = 4 then (q_sN s).2 i 4 + 1 else if t = i ∧ w = 1 then to else (q_sN s).2 t w := fun t w => by rw [eR]; rfl
    show q_inR ((passN s i to).2 t 1) (vN (sM s)) ∧ q_inR ((passN s i to).2 t 2) (vN (sM s)) ∧ q_inR ((passN s i to).2 t 3) (sR s).1 ∧ q_inR ((passN s i to).2 t 5) 6 ∧ (((passN s i to).2 t 6 >>> ((passN s i to).2 t 1 &&& 31)) &&& 1 = 1) ∧ ((passN s i to).2 t 0 = 1 → 0 < dT (sD s) ∧ dSt (sD s) (dT (sD s) - 1) ((passN s i to).2 t 5).toNatClampNeg ≠ -1)
    have eP : (passN s i to).2 = R := by rw [eR]; rfl
    rw [eP]
    by_cases e : t = i
    · subst e
      have u0 : R t 0 = (q_sN s).2 t 0 := by rw [u]; simp
      have u1 : R t 1 = to := by rw [u]; simp
      have u2 : R t 2 = (q_sN s).2 t 2 := by rw [u]; simp
      have u3 : R t 3 = (q_sN s).2 t 3 := by rw [u]; simp
      have u5 : R t 5 = (q_sN s).2 t 5 := by rw [u]; simp
      have u6 : R t 6 = (q_sN s).2 t 6 ||| ((1 : Int32) <<< (to &&& 31)) := by rw [u]; simp
      rw [u0, u1, u2, u3, u5, u6]
      exact ⟨hto, b2, b3, b4, bit2 _ _ hto h12, b6⟩
    · have u0 : ∀ w, R t w = (q_sN s).2 t w := fun w => by rw [u]; simp [e]
      rw [u0, u0, u0, u0, u0, u0]
      exact ⟨b1, b2, b3, b4, b5, b6⟩
  · exact h.up
theorem k_keep {s : q_St} {c : Nat} {p : Int32} (hc : c ≤ 600) (h : Iv s c) : Iv (fKeep s p).2 (c + 1) := by
  unfold fKeep
  split
  · rename_i hp
    obtain ⟨o1, o2⟩ := hp
    obtain ⟨i1, i2, i3', i4, i5, i6, i7, i8, i9⟩ := id h
    have h12 := i1.1
    have hnn := i7.1
    have hr60 := i6.1
    have ht := (nat_lt o1 (by omega)).1
    generalize q_nat p = i at *
    obtain ⟨a1, a2, a3, a4, a5, a6⟩ := i7.2 i ht
    obtain ⟨b1, e1⟩ := nat_lt a1 (by omega)
    have b2 := (nat_lt a2 (by omega)).1
    have b5 := (nat_lt a4 (by omega)).1
    generalize q_nat ((q_sN s).2 i 1) = hd at *
    generalize q_nat ((q_sN s).2 i 2) = gv at *
    generalize q_nat ((q_sN s).2 i 3) = k at *
    generalize q_nat ((q_sN s).2 i 5) = j at *
    unfold fKeepI
    split
    · obtain ⟨q1, q2, q3, q_q4, q5, q6, q7, q8, q9⟩ := h.up
      exact ⟨q1, q2, q3, q_q4, q5, q6.set3 (Or.inr rfl), q7.set0 (by decide), q8, q9⟩
    · obtain ⟨m1, m2⟩ := mv_IM (p := lat (sD s) j) (l := 1) i1.b (by omega) b2 b1 b5 (by decide)
      have l1 := mv_IL (si := hd) (l := 1) i2 i1.b (by omega) b2 (by omega) b5 (by decide) (by omega)
      have t1 : (1 : Int32).toInt = 1 := rfl
      rw [t1] at m1
      have hi : q_inR (q_i3 hd) (vN (sM s)) := i3_inR b1 (by omega)
      show Iv (kpX s i hd gv k j) (c + 1)
      unfold kpX
      generalize (lat (sD s) j).toInt64 + (q_rv (sU s) 4 (q_i3 (dT (sD s))) (q_i3 j) (lat (sD s) j) 0 ((sR s).2 k 0) ((sR s).2 k 1)).toInt64 = X
      generalize mvM (sM s) gv hd j 1 (lat (sD s) j) = V at *
      have eV : vN (sumM V hd gv X) = vN (sM s) := m2
      refine ⟨IM.of (IMb.paid (m1.paid (by rw [m2]; exact b1)) (by show gv < vN V; rw [m2]; exact b2)) (by omega), ?_, ?_, ?_, ?_, ?_, ?_, i8, i9⟩
      · show q_IL (mvG (sM s) (sG s).1 _ _ _ _, (sG s).2) (vN (sumM V hd gv X)) (sT s).1 (c + 1)
        rw [eV]; exact l1.up (Nat.le_refl _) (by omega)
      · show IO' (sO s) (vN (sumM V hd gv X)) (c + 1)
        rw [eV]; exact IO_up i3' (Nat.le_refl _) (by omega)
      · show IT (sT s) (vN (sumM V hd gv X)) (dT (sD s))
        rw [eV]; exact i4
      · show ID (sD s) (vN (sumM V hd gv X))
        rw [eV]; exact i5
      · show IR ((sR s).1, upd2 (upd2 (sR s).2 k 3 1) k 2 (q_i3 hd)) (vN (sumM V hd gv X))
        rw [eV]; exact IR.set2 (v := ((sR s).1, upd2 (sR s).2 k 3 1)) (i6.set3 (Or.inr rfl)) hi
      · show q_IN ((q_sN s).1, upd2 (q_sN s).2 i 0 2) (vN (sumM V hd gv X)) _ _
        rw [eV]; exact i7.set0 (by decide)
  · exact h.up

theorem Ib.v {s : q_St} {B : Int} {c : Nat} (h : Ib s B c) (hB : B ≤ 100 * ((c + 1 : Nat) : Int)) : Iv s (c + 1) := by
  obtain ⟨i1, i2, i3', i4, i5, i6, i7, i8, i9⟩ := h
  exact ⟨IM.of i1 hB, i2.up (Nat.le_refl _) (by omega), IO_up i3' (Nat.le_refl _) (by omega), i4, i5, i6, i7, i8, i9⟩
theorem k_order {s : q_St} {c : Nat} {m buy month price lots : Int32} (hc : c ≤ 600) (h : Iv s c) (ho : oWf (sO s)) : Iv (fOrder s m buy month price lots).2 (c + 1) := by
  unfold fOrder
  split
  · rename_i hr
    obtain ⟨⟨o1, o2, o3, o4⟩, h120, h700⟩ := rsn_ok hr
    have h12 := h.1.1
    have hm := (nat_lt o1 (by omega)).1
    have hj := (nat_lt o2 (by omega)).1
    have hIb : Ib s (100 * c) c := h
    obtain ⟨⟨B', g1, g2⟩, g3, g4, g5, g6, g7, g8⟩ := fillS_ok (mem := q_nat m) (buy := buy) (price := price) hj 121 s (100 * c) lots hIb ho (by omega) hm o3.2 (by omega)
    obtain ⟨R, eR⟩ : ∃ R, R = fillS (q_nat m) buy (q_nat month) price 121 s lots := ⟨_, rfl⟩
    rw [← eR] at g1 g2 g3 g4 g5 g6 g7 g8 ⊢
    have hv := g2.v (by omega)
    unfold fOrdIn
    split
    · exact hv
    · rename_i hn
      have hpos : 0 < R.1.toInt := by
        have : ¬ R.1 ≤ 0 := fun z => hn (Or.inl z)
        rw [Int32.le_iff_toInt_le] at this
        have z0 : (0 : Int32).toInt = 0 := rfl
        omega
      obtain ⟨i1, i2, i3', i4, i5, i6, i7, i8, i9⟩ := hv
      refine ⟨i1, i2, ⟨?_, ?_, fun x hx => ?_⟩, i4, i5, i6, i7, i8, i9⟩
      · show ((sO R.2).1 ++ [_]).length ≤ 120
        rw [List.length_append]; show (sO R.2).1.length + 1 ≤ 120; omega
      · show (sO R.2).2 + 1 ≤ c + 1
        rw [g4]; have := h.2.2.1.2.1; omega
      · have hx : x ∈ (sO R.2).1 ++ [((sO R.2).2, m, buy, month, price, R.1)] := hx
        rcases List.mem_append.mp hx with hx | hx
        · exact i3'.2.2 x hx
        · rw [List.mem_singleton] at hx; subst hx
          show q_inR m (vN (sM R.2)) ∧ 0 < R.1.toInt ∧ R.1.toInt ≤ 50 ∧ 1 ≤ price.toInt ∧ price.toInt ≤ 10000
          rw [g6]
          exact ⟨o1, hpos, by omega, o4.1, o4.2⟩
  · exact h.up
theorem k_night {s : q_St} {c : Nat} (hc : c ≤ 600) (h : Iv s c) : Iv (fNight s).2 (c + 1) := by
  unfold fNight
  split
  · rename_i h150
    obtain ⟨i1, i2, i3', i4, i5, i6, i7, i8, i9⟩ := id h
    have h12 := i1.1
    obtain ⟨a1, a2, a3, a4⟩ := nmL_ok (ru := sU s) (T := q_i3 (dT (sD s))) (P := fun j => pz (nP s j)) (s := wO s ([], (sO s).2)) (B := 100 * c) (nt := (sT s).1) (c := c) (by omega) i1.b i2 (vN (sM s)) (Nat.le_refl _)
    obtain ⟨R, eR⟩ : ∃ R, R = nR s := ⟨_, rfl⟩
    have eR' : nmL (sU s) (q_i3 (dT (sD s))) (fun j => pz (nP s j)) (vN (sM s)) (wO s ([], (sO s).2)) = R := by rw [eR]; rfl
    rw [eR'] at a1 a2 a3 a4
    rw [← eR]
    have a3 : vN (sM R.2) = vN (sM s) := a3
    have eO : sO R.2 = ([], (sO s).2) := congrArg (fun z => z.1) a4
    have eT : sT R.2 = sT s := congrArg (fun z => z.2.1) a4
    have eRr : sR R.2 = sR s := congrArg (fun z => z.2.2.2.1) a4
    have eN : q_sN R.2 = q_sN s := congrArg (fun z => z.2.2.2.2.1) a4
    have eU : sU R.2 = sU s := congrArg (fun z => z.2.2.2.2.2.1) a4
    have eP : sP' R.2 = sP' s := congrArg (fun z => z.2.2.2.2.2.2) a4
    obtain ⟨b1, b2, b3, b4, b5⟩ := i5
    refine ⟨IM.of a1 (by omega), ?_, ?_, ?_, ?_, ?_, ?_, ?_, ?_⟩
    · show q_IL (sG R.2) (vN (sM R.2)) (sT R.2).1 (c + 1)
      rw [a3, eT]; exact q_IL.up a2 (Nat.le_refl _) (by omega)
    · show IO' (sO R.2) (vN (sM R.2)) (c + 1)
      rw [eO]
      exact ⟨Nat.zero_le _, Nat.le_trans i3'.2.1 (Nat.le_succ _), fun x hx => nomatch hx⟩
    · show IT (sT R.2) (vN (sM R.2)) (dT (sD s) + 1)
      rw [a3, eT]; exact i4.up (Nat.le_refl _) (Nat.le_succ _)
    · refine ⟨by show dT (sD s) + 1 ≤ 150; omega, b2, fun d hd => ?_, fun q hq => ?_, b5⟩
      · have hd : d < dT (sD s) + 1 := hd
        show q_upd (dNm (sD s)) (dT (sD s)) (vN (sM s)) d ≤ vN (sM R.2) ∧ (∀ j, j < 6 → q_upd (dSt (sD s)) (dT (sD s)) (nP s) d j = -1 ∨ (1 ≤ (q_upd (dSt (sD s)) (dT (sD s)) (nP s) d j).toInt ∧ (q_upd (dSt (sD s)) (dT (sD s)) (nP s) d j).toInt ≤ 10000)) ∧ ∀ i, q_upd (dNm (sD s)) (dT (sD s)) (vN (sM s)) d ≤ i → i < 12 → q_upd (dBa (sD s)) (dT (sD s)) (fun i => vPd (sM R.2) i - vCs (sM R.2) i) d i = 0 ∧ ∀ j, j < 6 → q_upd (dPs (sD s)) (dT (sD s)) (vPs (sM R.2)) d i j = 0
        unfold q_upd
        rw [a3]
        by_cases e : d = dT (sD s)
        · simp only [if_pos e]
          refine ⟨Nat.le_refl _, fun j hj => endP_bd i4 ⟨b1, b2, b3, b4, b5⟩ hj, fun i hi h12' => ?_⟩
          obtain ⟨c1, c2, c3, c4, c5⟩ := a1.2.1 i (by rw [a3]; exact hi) h12'
          exact ⟨by rw [c1, c4]; rfl, c5⟩
        · simp only [if_neg e]
          exact b3 d (by omega)
      · obtain ⟨q1, q2, q3, q_q4, q5, q6, q7⟩ := b4 q hq
        refine ⟨q1, inR_up q2 (Nat.le_succ _), q3, q_q4, by show q.2.2.2.toInt ≤ ((dT (sD s) + 1 : Nat) : Int); omega, q6, ?_⟩
        show q_upd (dSt (sD s)) (dT (sD s)) (nP s) q.2.1.toNatClampNeg q.1.toNatClampNeg ≠ -1
        have hlt : q_nat q.2.1 < dT (sD s) := (nat_lt q2 (by omega)).1
        have hne : q.2.1.toNatClampNeg ≠ dT (sD s) := fun z => by
          have : q.2.1.toNatClampNeg < dT (sD s) := hlt
          omega
        unfold q_upd
        rw [if_neg hne]; exact q7
    · show IR (sR R.2) (vN (sM R.2))
      rw [a3, eRr]; exact i6
    · show q_IN (q_sN R.2) (vN (sM R.2)) (sR R.2).1 _
      rw [a3, eRr, eN]
      refine ⟨i7.1, fun t ht => ?_⟩
      obtain ⟨q1, q2, q3, q_q4, q5, q6⟩ := i7.2 t ht
      refine ⟨q1, q2, q3, q_q4, q5, fun z => ⟨Nat.succ_pos _, ?_⟩⟩
      obtain ⟨r1, r2⟩ := q6 z
      have hj := (nat_lt q_q4 (by omega)).1
      have hl := (lat_pos ⟨b1, b2, b3, b4, b5⟩ hj r1 r2).2
      show q_upd (dSt (sD s)) (dT (sD s)) (nP s) (dT (sD s) + 1 - 1) (q_nat ((q_sN s).2 t 5)) ≠ -1
      unfold q_upd
      rw [if_pos (by omega)]
      show q_endP (sT s) (sD s) _ ≠ -1
      unfold q_endP
      split
      · rename_i t' ht'
        have := (i4.2.1 t' (lastK_some ht').1).2.1
        intro z; rw [z] at this; exact absurd this (by decide)
      · exact hl
    · show (sU R.2).length ≤ 30
      rw [eU]; exact i8
    · show (sP' R.2).1 ≤ 600
      rw [eP]; exact i9
  · exact h.up

def q_lk : List (Nat × Nat) → Nat → Nat
  | [], _ => 0
  | e :: l, o => if o = e.1 then e.2 else q_lk l o
def lkP : List (Nat × Nat × Option Nat) → Nat → Nat → Option (Option Nat)
  | [], _, _ => none
  | e :: l, f, o => if f = e.1 ∧ o = e.2.1 then some e.2.2 else lkP l f o
def dv (μ0 : Mem) (b : Nat) : Option (Option Nat) → Option Nat
  | none => none
  | some none => mT μ0 0
  | some (some w) => some (b + w)
def Bl (μ0 : Mem) (b n : Nat) (K N : List (Nat × Nat)) (P : List (Nat × Nat × Option Nat)) (A S : Nat) (μ : Mem) : Prop := Zz μ ∧ mX μ = b + n ∧ mS μ = mS μ0 + S ∧ mT μ = mT μ0 ∧ (∀ f a, b ≤ a → mI μ f a = 0 ∧ mL μ f a = 0) ∧ (∀ k a i, b ≤ a → aI μ k a i = 0 ∧ aL μ k a i = 0) ∧ (∀ k a i, b ≤ a → aP μ k a i = if k = 157 ∧ a = b + 8 ∧ i < A then some (b + (9 + 4 * i)) else none) ∧ (∀ f o, mP μ f (b + o) = dv μ0 b (lkP P f o)) ∧ (∀ o, mK μ (b + o) = q_lk K o) ∧ (∀ o, mN μ (b + o) = q_lk N o) ∧ ∀ a, a < b → mK μ a = 0
theorem b_al {μ0 μ : Mem} {b n A S k m s : Nat} {K N : List (Nat × Nat)} {P : List (Nat × Nat × Option Nat)} (h : Bl μ0 b n K N P A S μ) : Bl μ0 b (n + 1) ((n, k) :: K) ((n, m) :: N) P A (S + s) (q_al k m s μ) := by
  obtain ⟨h1, h2, h3, h4, h5, h6, h7, h8, h9, h10, h11⟩ := h
  refine ⟨fun a ha => ?_, by show mX μ + 1 = _; omega, by show mS μ + s = _; omega, h4, h5, h6, h7, h8, fun o => ?_, fun o => ?_, fun a ha => ?_⟩
  · have ha : mX μ + 1 ≤ a := ha
    obtain ⟨z1, z2, z3, z4, z5, z6, z7, z8⟩ := h1 a (by omega)
    exact ⟨z1, z2, z3, z4, z5, z6, by show (if a = mX μ then k else mK μ a) = 0; rw [if_neg (by omega)]; exact z7, by show (if a = mX μ then m else mN μ a) = 0; rw [if_neg (by omega)]; exact z8⟩
  · show (if b + o = mX μ then k else mK μ (b + o)) = if o = n then k else q_lk K o
    rw [h2, h9]
    by_cases e : o = n
    · rw [if_pos e, if_pos (by omega)]
    · rw [if_neg e, if_neg (by omega)]
  · show (if b + o = mX μ then m else mN μ (b + o)) = if o = n then m else q_lk N o
    rw [h2, h10]
    by_cases e : o = n
    · rw [if_pos e, if_pos (by omega)]
    · rw [if_neg e, if_neg (by omega)]
  · show (if a = mX μ then k else mK μ a) = 0
    rw [if_neg (by omega)]; exact h11 a ha
theorem b_newO {α : Type} {μ0 μ : Mem} {b n A S c m : Nat} {K N : List (Nat × Nat)} {P : List (Nat × Nat × Option Nat)} {F : Option Nat → M α} {Q : α → Mem → Prop} (h : Bl μ0 b n K N P A S μ) (hQ : ∀ ν, Bl μ0 b (n + 1) ((n, c + 1) :: K) ((n, 0) :: N) P A (S + m) ν → q_wp (F (some (b + n))) ν Q) : q_wp (bn (newO c m) F) μ Q := by
  rw [wp_bn, wp_newO h.1, h.2.1]; exact hQ _ (b_al h)
theorem b_newA {α : Type} {μ0 μ : Mem} {b n A S k m : Nat} {x : Int32} {K N : List (Nat × Nat)} {P : List (Nat × Nat × Option Nat)} {F : Option Nat → M α} {Q : α → Mem → Prop} (h : Bl μ0 b n K N P A S μ) (hx : x = q_i3 m) (hm : m ≤ 1000000) (hQ : ∀ ν, Bl μ0 b (n + 1) ((n, k) :: K) ((n, m) :: N) P A (S + m) ν → q_wp (F (some (b + n))) ν Q) : q_wp (bn (newA k x) F) μ Q := by
  rw [hx, wp_bn, wp_newA h.1 hm, h.2.1]; exact hQ _ (b_al h)
theorem b_sP {μ0 μ : Mem} {b n A S f o : Nat} {v : Option Nat} {K N : List (Nat × Nat)} {P : List (Nat × Nat × Option Nat)} (h : Bl μ0 b n K N P A S μ) (ho : o < n) : Bl μ0 b n K N ((f, o, v) :: P) A S (sP μ f (b + o) (dv μ0 b (some v))) := by
  obtain ⟨h1, h2, h3, h4, h5, h6, h7, h8, h9, h10, h11⟩ := h
  refine ⟨fun a ha => ?_, h2, h3, h4, h5, h6, h7, fun g p => ?_, h9, h10, h11⟩
  · have ha : mX μ ≤ a := ha
    obtain ⟨z1, z2, z3, z4⟩ := h1 a ha
    refine ⟨z1, z2, fun g => ?_, z4⟩
    rw [mP_sP', if_neg (fun z => by omega)]; exact z3 g
  · rw [mP_sP', h8]
    show _ = dv μ0 b (if g = f ∧ p = o then some v else lkP P g p)
    by_cases e : g = f ∧ p = o
    · rw [if_pos e, if_pos ⟨e.1, by omega⟩]
    · rw [if_neg e, if_neg (fun z => e ⟨z.1, by omega⟩)]
theorem b_wP {α : Type} {μ0 μ : Mem} {b n A S c k o w : Nat} {K N : List (Nat × Nat)} {P : List (Nat × Nat × Option Nat)} {F : Unit → M α} {Q : α → Mem → Prop} (h : Bl μ0 b n K N P A S μ) (hk : q_lk K o = c + 1) (ho : o < n) (hQ : ∀ ν, Bl μ0 b n K N ((64 * c + k, o, some w) :: P) A S ν → q_wp (F ()) ν Q) : q_wp (bn (wP c k (some (b + o)) (some (b + w))) F) μ Q := by
  rw [wp_bn, wp_wP]
  exact ⟨by rw [h.2.2.2.2.2.2.2.2.1]; exact hk, hQ _ (b_sP (v := some w) h ho)⟩
theorem b_pRc {α : Type} {μ0 μ : Mem} {b n A S c o : Nat} {K N : List (Nat × Nat)} {P : List (Nat × Nat × Option Nat)} {F : Nat → M α} {Q : α → Mem → Prop} (h : Bl μ0 b n K N P A S μ) (hk : q_lk K o = c + 1) (hQ : q_wp (F (b + o)) μ Q) : q_wp (bn (pRc c (some (b + o))) F) μ Q := by
  rw [wp_bn, wp_pRc]
  exact ⟨by rw [h.2.2.2.2.2.2.2.2.1]; exact hk, hQ⟩
theorem b_list {α : Type} {μ0 μ : Mem} {b n A S o : Nat} {K N : List (Nat × Nat)} {P : List (Nat × Nat × Option Nat)} {F : Unit → M α} {Q : α → Mem → Prop} (h : Bl μ0 b n K N P A S μ) (hk : q_lk K o = 14) (ho : o < n) (hQ : ∀ ν, Bl μ0 b n K N ((833, o, none) :: P) A S ν → q_wp (F ()) ν Q) : q_wp (bn (F_Jx4a65c_init_da8c8 (b + o)) F) μ Q := by
  have hK : mK μ (b + o) = 13 + 1 := by rw [h.2.2.2.2.2.2.2.2.1]; exact hk
  unfold F_Jx4a65c_init_da8c8 F_Jxc12de_init_da8c8 F_Jxa1e45_init_da8c8
  simp only [wp_bn, wp_pRc, wp_rt, wp_wI, wp_cK, wp_wP]
  have h' : Bl μ0 b n K N P A S (sI μ (64 * 13 + 0) (b + o) 0) := by
    obtain ⟨h1, h2, h3, h4, h5, h6, h7, h8, h9, h10, h11⟩ := h
    refine ⟨fun a ha => ?_, h2, h3, h4, fun f a ha => ?_, h6, h7, h8, h9, h10, h11⟩
    · have ha : mX μ ≤ a := ha
      obtain ⟨z1, z2⟩ := h1 a ha
      refine ⟨fun g => ?_, z2⟩
      rw [mI_sI']; split
      · rfl
      · exact z1 g
    · refine ⟨?_, (h5 f a ha).2⟩
      rw [mI_sI']; split
      · rfl
      · exact (h5 f a ha).1
  refine ⟨hK, hK, hK, hK, ?_⟩
  have := hQ _ (b_sP (f := 833) (v := none) h' ho)
  have eT : mT (sI μ (64 * 13 + 0) (b + o) 0) 0 = dv μ0 b (some none) := by rw [h'.2.2.2.1]; rfl
  rw [eT]
  exact this
theorem b_stP {α : Type} {μ0 μ : Mem} {b n A S : Nat} {x : Int32} {K N : List (Nat × Nat)} {P : List (Nat × Nat × Option Nat)} {F : Unit → M α} {Q : α → Mem → Prop} (h : Bl μ0 b n K N P A S μ) (hn8 : 8 < n) (hk : q_lk K 8 = 157) (hn : q_lk N 8 = 6) (hx : x = q_i3 A) (hA : A < 6) (hw : q_lk K (9 + 4 * A) = 3) (hQ : ∀ ν, Bl μ0 b n K N P (A + 1) S ν → q_wp (F ()) ν Q) : q_wp (bn (stP 157 2 (some (b + 8)) x (some (b + (9 + 4 * A)))) F) μ Q := by
  obtain ⟨h1, h2, h3, h4, h5, h6, h7, h8, h9, h10, h11⟩ := h
  rw [wp_bn, wp_stP, hx, h9, h10, hn, inA_i3 (by omega), i3_toNat (by omega)]
  refine ⟨hk, ⟨hA, Or.inr (by show mK μ (b + (9 + 4 * A)) = 2 + 1; rw [h9]; exact hw)⟩, hQ _ ⟨fun a ha => ?_, h2, h3, h4, h5, h6, fun k a i ha => ?_, h8, h9, h10, h11⟩⟩
  · have ha : mX μ ≤ a := ha
    obtain ⟨z1, z2, z3, z4, z5, z6, z7⟩ := h1 a ha
    refine ⟨z1, z2, z3, z4, z5, fun k i => ?_, z7⟩
    rw [aP_tP', if_neg (fun z => by omega)]; exact z6 k i
  · rw [aP_tP', h7 k a i ha]
    by_cases e : k = 157 ∧ a = b + 8 ∧ i = A
    · rw [if_pos e, if_pos ⟨e.1, e.2.1, by omega⟩, e.2.2]
    · rw [if_neg e]
      by_cases e2 : k = 157 ∧ a = b + 8 ∧ i < A
      · rw [if_pos e2, if_pos ⟨e2.1, e2.2.1, by omega⟩]
      · rw [if_neg e2, if_neg (fun z => e2 ⟨z.1, z.2.1, by have := fun y => e ⟨z.1, z.2.1, y⟩; omega⟩)]
theorem b_gP {α : Type} {μ0 μ : Mem} {b n A S c k o w : Nat} {K N : List (Nat × Nat)} {P : List (Nat × Nat × Option Nat)} {F : Option Nat → M α} {Q : α → Mem → Prop} (h : Bl μ0 b n K N P A S μ) (hk : q_lk K o = c + 1) (hw : lkP P (64 * c + k) o = some (some w)) (hQ : q_wp (F (some (b + w))) μ Q) : q_wp (bn (gP c k (some (b + o))) F) μ Q := by
  rw [wp_bn, wp_gP, h.2.2.2.2.2.2.2.1, hw]
  exact ⟨by rw [h.2.2.2.2.2.2.2.2.1]; exact hk, hQ⟩
def KFi : List (Nat × Nat) := [(65, 377), (64, 360), (63, 352), (62, 344), (61, 336), (60, 328), (59, 321), (58, 312), (57, 305), (56, 296), (55, 288), (54, 280), (53, 274), (52, 264), (51, 256), (50, 248), (49, 241), (48, 232), (47, 226), (46, 218), (45, 209), (44, 200), (43, 192), (42, 184), (41, 176), (40, 168), (39, 160), (38, 13), (37, 14), (36, 14), (35, 14), (34, 14), (33, 14), (32, 14), (31, 14), (30, 14), (29, 3), (28, 14), (27, 14), (26, 14), (25, 3), (24, 14), (23, 14), (22, 14), (21, 3), (20, 14), (19, 14), (18, 14), (17, 3), (16, 14), (15, 14), (14, 14), (13, 3), (12, 14), (11, 14), (10, 14), (9, 3), (8, 157), (7, 144), (6, 136), (5, 14), (4, 8), (3, 120), (2, 115), (1, 5), (0, 12)]
def NFi : List (Nat × Nat) := [(65, 1), (64, 6), (63, 6), (62, 560), (61, 240), (60, 400), (59, 10872), (58, 10872), (57, 1812), (56, 906), (55, 4900), (54, 600), (53, 6), (52, 6), (51, 9600), (50, 9600), (49, 72), (48, 72), (47, 12), (46, 12), (45, 12), (44, 1800), (43, 1800), (42, 30), (41, 30), (40, 30), (39, 600), (38, 0), (37, 0), (36, 0), (35, 0), (34, 0), (33, 0), (32, 0), (31, 0), (30, 0), (29, 0), (28, 0), (27, 0), (26, 0), (25, 0), (24, 0), (23, 0), (22, 0), (21, 0), (20, 0), (19, 0), (18, 0), (17, 0), (16, 0), (15, 0), (14, 0), (13, 0), (12, 0), (11, 0), (10, 0), (9, 0), (8, 6), (7, 60), (6, 6), (5, 0), (4, 0), (3, 60), (2, 600), (1, 0), (0, 0)]
def PFi : List (Nat × Nat × Option Nat) := [(815, 38, some 64), (814, 38, some 63), (801, 38, some 62), (799, 38, some 61), (797, 38, some 60), (796, 38, some 59), (795, 38, some 58), (794, 38, some 57), (793, 38, some 56), (790, 38, some 55), (788, 38, some 54), (787, 38, some 53), (786, 38, some 52), (785, 38, some 51), (784, 38, some 50), (783, 38, some 49), (782, 38, some 48), (781, 38, some 47), (780, 38, some 46), (779, 38, some 45), (776, 38, some 44), (775, 38, some 43), (774, 38, some 42), (773, 38, some 41), (772, 38, some 40), (768, 38, some 39), (711, 0, some 37), (833, 37, none), (710, 0, some 36), (833, 36, none), (709, 0, some 35), (833, 35, none), (708, 0, some 34), (833, 34, none), (707, 0, some 33), (833, 33, none), (130, 29, some 32), (833, 32, none), (129, 29, some 31), (833, 31, none), (128, 29, some 30), (833, 30, none), (130, 25, some 28), (833, 28, none), (129, 25, some 27), (833, 27, none), (128, 25, some 26), (833, 26, none), (130, 21, some 24), (833, 24, none), (129, 21, some 23), (833, 23, none), (128, 21, some 22), (833, 22, none), (130, 17, some 20), (833, 20, none), (129, 17, some 19), (833, 19, none), (128, 17, some 18), (833, 18, none), (130, 13, some 16), (833, 16, none), (129, 13, some 15), (833, 15, none), (128, 13, some 14), (833, 14, none), (130, 9, some 12), (833, 12, none), (129, 9, some 11), (833, 11, none), (128, 9, some 10), (833, 10, none), (706, 0, some 8), (705, 0, some 4), (450, 4, some 7), (449, 4, some 6), (448, 4, some 5), (833, 5, none), (704, 0, some 1), (265, 1, some 3), (256, 1, some 2)]
theorem init_bl {μ0 : Mem} {b b' L : Nat} {xs : Nat → Int32} {Q : Int32 → Mem → Prop} (h0 : Bl μ0 b 0 [] [] [] 0 0 μ0) (hQ : ∀ ν, Bl μ0 b 66 KFi NFi PFi 6 55759 ν → q_wp (F_L_law_L23 b' L xs FU (some b) (some (b + 38)) (some (b + 65)) 0) ν Q) : q_wp (F_L_law b' L xs) μ0 Q := by
  have h := h0
  unfold F_L_law
  refine b_newO h fun μ h => ?_
  refine b_pRc (o := 0) h rfl ?_
  rw [wp_bn]; unfold F_X11_init
  refine b_newO h fun μ h => ?_
  refine b_pRc (o := 1) h rfl ?_
  rw [wp_bn]; unfold F_X4_init
  refine b_newA (m := 600) h rfl (by omega) fun μ h => ?_
  refine b_wP (o := 1) (w := 2) h rfl (by omega) fun μ h => ?_
  refine b_newA (m := 60) h rfl (by omega) fun μ h => ?_
  refine b_wP (o := 1) (w := 3) h rfl (by omega) fun μ h => ?_
  rw [wp_rt]
  refine b_wP (o := 0) (w := 1) h rfl (by omega) fun μ h => ?_
  refine b_newO h fun μ h => ?_
  refine b_pRc (o := 4) h rfl ?_
  rw [wp_bn]; unfold F_X7_init
  refine b_newO h fun μ h => ?_
  refine b_pRc (o := 5) h rfl ?_
  refine b_list (o := 5) h rfl (by omega) fun μ h => ?_
  refine b_wP (o := 4) (w := 5) h rfl (by omega) fun μ h => ?_
  refine b_newA (m := 6) h rfl (by omega) fun μ h => ?_
  refine b_wP (o := 4) (w := 6) h rfl (by omega) fun μ h => ?_
  refine b_newA (m := 60) h rfl (by omega) fun μ h => ?_
  refine b_wP (o := 4) (w := 7) h rfl (by omega) fun μ h => ?_
  rw [wp_rt]
  refine b_wP (o := 0) (w := 4) h rfl (by omega) fun μ h => ?_
  refine b_newA (m := 6) h rfl (by omega) fun μ h => ?_
  refine b_wP (o := 0) (w := 8) h rfl (by omega) fun μ h => ?_
  rw [show FU = 99993 + 1 + 1 + 1 + 1 + 1 + 1 + 1 from rfl]
  unfold F_X11_init_L37; rw [wp_ite, if_neg (by decide)]
  refine b_gP (o := 0) (w := 8) h rfl rfl ?_
  refine b_newO h fun μ h => ?_
  refine b_pRc (o := 9) h rfl ?_
  rw [wp_bn]; unfold F_X2_init
  refine b_newO h fun μ h => ?_
  refine b_pRc (o := 10) h rfl ?_
  refine b_list (o := 10) h rfl (by omega) fun μ h => ?_
  refine b_wP (o := 9) (w := 10) h rfl (by omega) fun μ h => ?_
  refine b_newO h fun μ h => ?_
  refine b_pRc (o := 11) h rfl ?_
  refine b_list (o := 11) h rfl (by omega) fun μ h => ?_
  refine b_wP (o := 9) (w := 11) h rfl (by omega) fun μ h => ?_
  refine b_newO h fun μ h => ?_
  refine b_pRc (o := 12) h rfl ?_
  refine b_list (o := 12) h rfl (by omega) fun μ h => ?_
  refine b_wP (o := 9) (w := 12) h rfl (by omega) fun μ h => ?_
  rw [wp_rt]
  refine b_stP (A := 0) h (by omega) rfl rfl (by decide) (by omega) rfl fun μ h => ?_
  unfold F_X11_init_L37; rw [wp_ite, if_neg (by decide)]
  refine b_gP (o := 0) (w := 8) h rfl rfl ?_
  refine b_newO h fun μ h => ?_
  refine b_pRc (o := 13) h rfl ?_
  rw [wp_bn]; unfold F_X2_init
  refine b_newO h fun μ h => ?_
  refine b_pRc (o := 14) h rfl ?_
  refine b_list (o := 14) h rfl (by omega) fun μ h => ?_
  refine b_wP (o := 13) (w := 14) h rfl (by omega) fun μ h => ?_
  refine b_newO h fun μ h => ?_
  refine b_pRc (o := 15) h rfl ?_
  refine b_list (o := 15) h rfl (by omega) fun μ h => ?_
  refine b_wP (o := 13) (w := 15) h rfl (by omega) fun μ h => ?_
  refine b_newO h fun μ h => ?_
  refine b_pRc (o := 16) h rfl ?_
  refine b_list (o := 16) h rfl (by omega) fun μ h => ?_
  refine b_wP (o := 13) (w := 16) h rfl (by omega) fun μ h => ?_
  rw [wp_rt]
  refine b_stP (A := 1) h (by omega) rfl rfl (by decide) (by omega) rfl fun μ h => ?_
  unfold F_X11_init_L37; rw [wp_ite, if_neg (by decide)]
  refine b_gP (o := 0) (w := 8) h rfl rfl ?_
  refine b_newO h fun μ h => ?_
  refine b_pRc (o := 17) h rfl ?_
  rw [wp_bn]; unfold F_X2_init
  refine b_newO h fun μ h => ?_
  refine b_pRc (o := 18) h rfl ?_
  refine b_list (o := 18) h rfl (by omega) fun μ h => ?_
  refine b_wP (o := 17) (w := 18) h rfl (by omega) fun μ h => ?_
  refine b_newO h fun μ h => ?_
  refine b_pRc (o := 19) h rfl ?_
  refine b_list (o := 19) h rfl (by omega) fun μ h => ?_
  refine b_wP (o := 17) (w := 19) h rfl (by omega) fun μ h => ?_
  refine b_newO h fun μ h => ?_
  refine b_pRc (o := 20) h rfl ?_
  refine b_list (o := 20) h rfl (by omega) fun μ h => ?_
  refine b_wP (o := 17) (w := 20) h rfl (by omega) fun μ h => ?_
  rw [wp_rt]
  refine b_stP (A := 2) h (by omega) rfl rfl (by decide) (by omega) rfl fun μ h => ?_
  unfold F_X11_init_L37; rw [wp_ite, if_neg (by decide)]
  refine b_gP (o := 0) (w := 8) h rfl rfl ?_
  refine b_newO h fun μ h => ?_
  refine b_pRc (o := 21) h rfl ?_
  rw [wp_bn]; unfold F_X2_init
  refine b_newO h fun μ h => ?_
  refine b_pRc (o := 22) h rfl ?_
  refine b_list (o := 22) h rfl (by omega) fun μ h => ?_
  refine b_wP (o := 21) (w := 22) h rfl (by omega) fun μ h => ?_
  refine b_newO h fun μ h => ?_
  refine b_pRc (o := 23) h rfl ?_
  refine b_list (o := 23) h rfl (by omega) fun μ h => ?_
  refine b_wP (o := 21) (w := 23) h rfl (by omega) fun μ h => ?_
  refine b_newO h fun μ h => ?_
  refine b_pRc (o := 24) h rfl ?_
  refine b_list (o := 24) h rfl (by omega) fun μ h => ?_
  refine b_wP (o := 21) (w := 24) h rfl (by omega) fun μ h => ?_
  rw [wp_rt]
  refine b_stP (A := 3) h (by omega) rfl rfl (by decide) (by omega) rfl fun μ h => ?_
  unfold F_X11_init_L37; rw [wp_ite, if_neg (by decide)]
  refine b_gP (o := 0) (w := 8) h rfl rfl ?_
  refine b_newO h fun μ h => ?_
  refine b_pRc (o := 25) h rfl ?_
  rw [wp_bn]; unfold F_X2_init
  refine b_newO h fun μ h => ?_
  refine b_pRc (o := 26) h rfl ?_
  refine b_list (o := 26) h rfl (by omega) fun μ h => ?_
  refine b_wP (o := 25) (w := 26) h rfl (by omega) fun μ h => ?_
  refine b_newO h fun μ h => ?_
  refine b_pRc (o := 27) h rfl ?_
  refine b_list (o := 27) h rfl (by omega) fun μ h => ?_
  refine b_wP (o := 25) (w := 27) h rfl (by omega) fun μ h => ?_
  refine b_newO h fun μ h => ?_
  refine b_pRc (o := 28) h rfl ?_
  refine b_list (o := 28) h rfl (by omega) fun μ h => ?_
  refine b_wP (o := 25) (w := 28) h rfl (by omega) fun μ h => ?_
  rw [wp_rt]
  refine b_stP (A := 4) h (by omega) rfl rfl (by decide) (by omega) rfl fun μ h => ?_
  unfold F_X11_init_L37; rw [wp_ite, if_neg (by decide)]
  refine b_gP (o := 0) (w := 8) h rfl rfl ?_
  refine b_newO h fun μ h => ?_
  refine b_pRc (o := 29) h rfl ?_
  rw [wp_bn]; unfold F_X2_init
  refine b_newO h fun μ h => ?_
  refine b_pRc (o := 30) h rfl ?_
  refine b_list (o := 30) h rfl (by omega) fun μ h => ?_
  refine b_wP (o := 29) (w := 30) h rfl (by omega) fun μ h => ?_
  refine b_newO h fun μ h => ?_
  refine b_pRc (o := 31) h rfl ?_
  refine b_list (o := 31) h rfl (by omega) fun μ h => ?_
  refine b_wP (o := 29) (w := 31) h rfl (by omega) fun μ h => ?_
  refine b_newO h fun μ h => ?_
  refine b_pRc (o := 32) h rfl ?_
  refine b_list (o := 32) h rfl (by omega) fun μ h => ?_
  refine b_wP (o := 29) (w := 32) h rfl (by omega) fun μ h => ?_
  rw [wp_rt]
  refine b_stP (A := 5) h (by omega) rfl rfl (by decide) (by omega) rfl fun μ h => ?_
  unfold F_X11_init_L37; rw [wp_ite, if_pos (by decide)]
  refine b_newO h fun μ h => ?_
  refine b_pRc (o := 33) h rfl ?_
  refine b_list (o := 33) h rfl (by omega) fun μ h => ?_
  refine b_wP (o := 0) (w := 33) h rfl (by omega) fun μ h => ?_
  refine b_newO h fun μ h => ?_
  refine b_pRc (o := 34) h rfl ?_
  refine b_list (o := 34) h rfl (by omega) fun μ h => ?_
  refine b_wP (o := 0) (w := 34) h rfl (by omega) fun μ h => ?_
  refine b_newO h fun μ h => ?_
  refine b_pRc (o := 35) h rfl ?_
  refine b_list (o := 35) h rfl (by omega) fun μ h => ?_
  refine b_wP (o := 0) (w := 35) h rfl (by omega) fun μ h => ?_
  refine b_newO h fun μ h => ?_
  refine b_pRc (o := 36) h rfl ?_
  refine b_list (o := 36) h rfl (by omega) fun μ h => ?_
  refine b_wP (o := 0) (w := 36) h rfl (by omega) fun μ h => ?_
  refine b_newO h fun μ h => ?_
  refine b_pRc (o := 37) h rfl ?_
  refine b_list (o := 37) h rfl (by omega) fun μ h => ?_
  refine b_wP (o := 0) (w := 37) h rfl (by omega) fun μ h => ?_
  rw [wp_rt]
  refine b_newO h fun μ h => ?_
  refine b_pRc (o := 38) h rfl ?_
  rw [wp_bn]; unfold F_X12_init
  refine b_newA (m := 600) h rfl (by omega) fun μ h => ?_
  refine b_wP (o := 38) (w := 39) h rfl (by omega) fun μ h => ?_
  refine b_newA (m := 30) h rfl (by omega) fun μ h => ?_
  refine b_wP (o := 38) (w := 40) h rfl (by omega) fun μ h => ?_
  refine b_newA (m := 30) h rfl (by omega) fun μ h => ?_
  refine b_wP (o := 38) (w := 41) h rfl (by omega) fun μ h => ?_
  refine b_newA (m := 30) h rfl (by omega) fun μ h => ?_
  refine b_wP (o := 38) (w := 42) h rfl (by omega) fun μ h => ?_
  refine b_newA (m := 1800) h rfl (by omega) fun μ h => ?_
  refine b_wP (o := 38) (w := 43) h rfl (by omega) fun μ h => ?_
  refine b_newA (m := 1800) h rfl (by omega) fun μ h => ?_
  refine b_wP (o := 38) (w := 44) h rfl (by omega) fun μ h => ?_
  refine b_newA (m := 12) h rfl (by omega) fun μ h => ?_
  refine b_wP (o := 38) (w := 45) h rfl (by omega) fun μ h => ?_
  refine b_newA (m := 12) h rfl (by omega) fun μ h => ?_
  refine b_wP (o := 38) (w := 46) h rfl (by omega) fun μ h => ?_
  refine b_newA (m := 12) h rfl (by omega) fun μ h => ?_
  refine b_wP (o := 38) (w := 47) h rfl (by omega) fun μ h => ?_
  refine b_newA (m := 72) h rfl (by omega) fun μ h => ?_
  refine b_wP (o := 38) (w := 48) h rfl (by omega) fun μ h => ?_
  refine b_newA (m := 72) h rfl (by omega) fun μ h => ?_
  refine b_wP (o := 38) (w := 49) h rfl (by omega) fun μ h => ?_
  refine b_newA (m := 9600) h rfl (by omega) fun μ h => ?_
  refine b_wP (o := 38) (w := 50) h rfl (by omega) fun μ h => ?_
  refine b_newA (m := 9600) h rfl (by omega) fun μ h => ?_
  refine b_wP (o := 38) (w := 51) h rfl (by omega) fun μ h => ?_
  refine b_newA (m := 6) h rfl (by omega) fun μ h => ?_
  refine b_wP (o := 38) (w := 52) h rfl (by omega) fun μ h => ?_
  refine b_newA (m := 6) h rfl (by omega) fun μ h => ?_
  refine b_wP (o := 38) (w := 53) h rfl (by omega) fun μ h => ?_
  refine b_newA (m := 600) h rfl (by omega) fun μ h => ?_
  refine b_wP (o := 38) (w := 54) h rfl (by omega) fun μ h => ?_
  refine b_newA (m := 4900) h rfl (by omega) fun μ h => ?_
  refine b_wP (o := 38) (w := 55) h rfl (by omega) fun μ h => ?_
  refine b_newA (m := 906) h rfl (by omega) fun μ h => ?_
  refine b_wP (o := 38) (w := 56) h rfl (by omega) fun μ h => ?_
  refine b_newA (m := 1812) h rfl (by omega) fun μ h => ?_
  refine b_wP (o := 38) (w := 57) h rfl (by omega) fun μ h => ?_
  refine b_newA (m := 10872) h rfl (by omega) fun μ h => ?_
  refine b_wP (o := 38) (w := 58) h rfl (by omega) fun μ h => ?_
  refine b_newA (m := 10872) h rfl (by omega) fun μ h => ?_
  refine b_wP (o := 38) (w := 59) h rfl (by omega) fun μ h => ?_
  refine b_newA (m := 400) h rfl (by omega) fun μ h => ?_
  refine b_wP (o := 38) (w := 60) h rfl (by omega) fun μ h => ?_
  refine b_newA (m := 240) h rfl (by omega) fun μ h => ?_
  refine b_wP (o := 38) (w := 61) h rfl (by omega) fun μ h => ?_
  refine b_newA (m := 560) h rfl (by omega) fun μ h => ?_
  refine b_wP (o := 38) (w := 62) h rfl (by omega) fun μ h => ?_
  refine b_newA (m := 6) h rfl (by omega) fun μ h => ?_
  refine b_wP (o := 38) (w := 63) h rfl (by omega) fun μ h => ?_
  refine b_newA (m := 6) h rfl (by omega) fun μ h => ?_
  refine b_wP (o := 38) (w := 64) h rfl (by omega) fun μ h => ?_
  rw [wp_rt]
  refine b_newA (m := 1) h rfl (by omega) fun μ h => ?_
  exact hQ μ h

def q_s0 : q_St := ((0, fun _ => 0, fun _ => 0, fun _ => 0, fun _ _ => 0, fun _ => 0), (fun _ => [], fun _ => 0), ([], 0), (0, fun _ _ => 0), (0, fun _ _ => -1, [], fun _ => 0, fun _ _ => 0, fun _ _ _ => 0), (0, fun _ _ => 0), (0, fun _ _ => 0), [], (0, fun _ => 0, 0, 0))
theorem Bl.k0 {μ0 μ : Mem} {b S : Nat} (h : Bl μ0 b 66 KFi NFi PFi 6 S μ) : K0 μ b := by
  obtain ⟨h1, h2, h3, h4, h5, h6, h7, h8, h9, h10, h11⟩ := h
  refine ⟨fun p hp => ?_, fun p hp => ?_, fun p hp => ?_, fun i hi => ?_⟩
  · rw [h9]
    have key : ∀ p ∈ q_KT, q_lk KFi p.1 = p.2 := by decide
    exact key p hp
  · rw [h8]
    have key : ∀ p ∈ q_PT, lkP PFi p.1 p.2.1 = some (some p.2.2) := by decide +kernel
    rw [key p hp]; rfl
  · rw [h10]
    have key : ∀ p ∈ NT, q_lk NFi p.1 = p.2 := by decide
    exact key p hp
  · rw [h7 157 (b + 8) i (by omega), if_pos ⟨rfl, rfl, hi⟩]
theorem Bl.out {μ0 μ : Mem} {b S : Nat} (h : Bl μ0 b 66 KFi NFi PFi 6 S μ) {a : Nat} (ha : mK μ a = 14) : b ≤ a ∧ mP μ 833 a = mT μ 0 := by
  obtain ⟨h1, h2, h3, h4, h5, h6, h7, h8, h9, h10, h11⟩ := h
  have hb : b ≤ a := Classical.byContradiction fun z => by rw [h11 a (by omega)] at ha; exact absurd ha (by decide)
  refine ⟨hb, ?_⟩
  obtain ⟨o, rfl⟩ : ∃ o, a = b + o := ⟨a - b, by omega⟩
  rw [h9] at ha
  have ho : o < 66 := Classical.byContradiction fun z => by
    have := (h1 (b + o) (by omega)).2.2.2.2.2.2.1
    rw [h9, ha] at this; exact absurd this (by decide)
  have key : ∀ o : Fin 66, q_lk KFi o.1 = 14 → lkP PFi 833 o.1 = some none := by decide +kernel
  rw [h8, key ⟨o, ho⟩ ha, h4]; rfl
theorem Bl.ls {μ0 μ : Mem} {b S : Nat} (h : Bl μ0 b 66 KFi NFi PFi 6 S μ) {a : Nat} (ha : b ≤ a) : q_lst μ a = [] := by
  unfold q_lst
  rw [(h.2.2.2.2.1 834 a ha).1]; rfl
theorem Bl.wf {μ0 μ : Mem} {b S : Nat} (h : Bl μ0 b 66 KFi NFi PFi 6 S μ) (hT : TT μ0) (hb : mX μ0 = b) : WF μ := by
  obtain ⟨t1, t2, t3, t4⟩ := hT
  have o := fun {a : Nat} => h.out (a := a)
  have l := fun {a : Nat} => h.ls (a := a)
  obtain ⟨h1, h2, h3, h4, h5, h6, h7, h8, h9, h10, h11⟩ := h
  refine ⟨h1, ⟨?_, by rw [h4]; exact t2, by rw [h4]; exact t3, by rw [h4]; exact t4⟩, fun a ha => ?_, fun a c ha hc _ _ => (o ha).2, fun a c ha hc r hr => ?_, fun a ha => ?_⟩
  · obtain ⟨t, e1, e2, e3⟩ := t1
    exact ⟨t, by rw [h4]; exact e1, by omega, h11 t (by omega)⟩
  · exact ⟨0, (h5 834 a (o ha).1).1, by omega, Or.inl ⟨(o ha).2, rfl⟩⟩
  · rw [l (o ha).1] at hr; exact nomatch hr
  · rw [l (o ha).1]; exact List.nodup_nil
theorem Bl.ac {μ0 μ : Mem} {b S : Nat} (h : Bl μ0 b 66 KFi NFi PFi 6 S μ) : q_AC μ b q_s0 := by
  have l := fun o => h.ls (a := b + o) (by omega)
  have z := fun f o => (h.2.2.2.2.1 f (b + o) (by omega)).1
  have z0 := fun f => (h.2.2.2.2.1 f b (by omega)).1
  refine ⟨⟨by rw [l]; rfl, fun i hi => absurd hi (Nat.not_lt_zero _)⟩, fun i hi => ⟨by rw [l]; rfl, fun r hr => (by rw [l] at hr; exact nomatch hr), z _ _⟩, ⟨z0 713, by show 0 ≤ 1000; omega, List.Pairwise.nil, fun x hx => (nomatch hx), fun i hi s hs => ⟨fun r hr => (by rw [l] at hr; exact nomatch hr), ?_, fun x => ?_⟩⟩, ⟨by rw [l]; rfl, fun i hi => absurd hi (Nat.not_lt_zero _)⟩, ⟨z0 712, z0 714, by rw [l]; rfl, fun i hi => absurd hi (Nat.not_lt_zero _)⟩, ⟨by rw [l]; rfl, fun i hi => absurd hi (Nat.not_lt_zero _)⟩, ⟨by rw [l]; rfl, fun i hi => absurd hi (Nat.not_lt_zero _)⟩, ⟨by rw [l]; rfl, by show 0 ≤ 30; omega, fun i hi => absurd hi (Nat.not_lt_zero _)⟩, ⟨z _ _, z _ _, z _ _, fun i hi => absurd hi (Nat.not_lt_zero _)⟩⟩
  · unfold sd; rw [l]; exact List.Pairwise.nil
  · unfold sd; rw [l]
    exact ⟨fun y => (nomatch y), fun y => (nomatch y.1)⟩
theorem Bl.ar {μ0 μ : Mem} {b S : Nat} (h : Bl μ0 b 66 KFi NFi PFi 6 S μ) : q_AR μ b q_s0 := by
  have z := fun f o => (h.2.2.2.2.1 f (b + o) (by omega)).1
  have zi := fun k o i => (h.2.2.2.2.2.1 k (b + o) i (by omega)).1
  have zl := fun k o i => (h.2.2.2.2.2.1 k (b + o) i (by omega)).2
  have no : ∀ {P : Nat → Prop} i, i < 0 → P i := fun i hi => absurd hi (Nat.not_lt_zero _)
  refine ⟨⟨z _ _, fun i hi => ⟨zl _ _ _, zi _ _ _, zi _ _ _, ?_, fun j hj => zi _ _ _⟩⟩, fun i hi => ⟨zi _ _ _, zi _ _ _, no⟩, ⟨z _ _, no⟩, ⟨z _ _, no⟩, ⟨z _ _, z _ _, no, no⟩, ⟨z _ _, no⟩, ⟨z _ _, no⟩, ⟨z _ _, by show 0 ≤ 30; omega, no⟩, ⟨z _ _, z _ _, z _ _, no⟩⟩
  unfold sm6
  simp only [zl]; rfl
theorem s0_iv : Iv q_s0 0 := by
  have no : ∀ {P : Nat → Prop} i, i < 0 → P i := fun i hi => absurd hi (Nat.not_lt_zero _)
  have ip : ∀ i : Nat, ((0 : Int32).toInt) = 0 := fun _ => rfl
  refine ⟨⟨by show 0 ≤ 12; omega, fun i _ _ => ⟨rfl, rfl, rfl, rfl, fun _ _ => rfl⟩, fun i _ => ⟨Or.inl rfl, Or.inl rfl⟩, fun i _ j _ => ⟨by show -(100 * ((0 : Nat) : Int)) ≤ (0 : Int32).toInt; decide, by show (0 : Int32).toInt ≤ 100 * ((0 : Nat) : Int); decide⟩, fun j _ => rfl⟩, fun j _ => ⟨Nat.zero_le _, fun q hq => (nomatch hq), Or.inl rfl⟩, ⟨Nat.zero_le _, Nat.le_refl _, fun q hq => (nomatch hq)⟩, ⟨Nat.zero_le _, no, fun t ht => absurd ht (Nat.not_lt_zero _)⟩, ⟨Nat.zero_le _, Nat.zero_le _, no, fun q hq => (nomatch hq), List.Pairwise.nil⟩, ⟨Nat.zero_le _, no⟩, ⟨Nat.zero_le _, no⟩, Nat.zero_le _, Nat.zero_le _⟩
theorem init_ok {μ0 : Mem} {b' L : Nat} {xs : Nat → Int32} {Q : Int32 → Mem → Prop} (hz : Zz μ0) (hT : TT μ0) (hk : ∀ a, mK μ0 a = 0) (hQ : ∀ ν, K0 ν (mX μ0) → WF ν → q_AC ν (mX μ0) q_s0 → q_AR ν (mX μ0) q_s0 → mX ν = mX μ0 + 66 → mS ν = mS μ0 + 55759 → q_wp (F_L_law_L23 b' L xs FU (some (mX μ0)) (some (mX μ0 + 38)) (some (mX μ0 + 65)) 0) ν Q) : q_wp (F_L_law b' L xs) μ0 Q := by
  refine init_bl (b := mX μ0) ⟨hz, rfl, rfl, rfl, fun f a ha => ⟨(hz a ha).1 f, (hz a ha).2.1 f⟩, fun k a i ha => ⟨(hz a ha).2.2.2.1 k i, (hz a ha).2.2.2.2.1 k i⟩, fun k a i ha => ?_, fun f o => (hz _ (Nat.le_add_right _ _)).2.2.1 f, fun o => hk _, fun o => (hz _ (Nat.le_add_right _ _)).2.2.2.2.2.2.2, fun a _ => hk a⟩ fun ν h => hQ ν h.k0 (h.wf hT rfl) h.ac h.ar h.2.1 h.2.2.1
  rw [if_neg (fun z => absurd z.2.2 (Nat.not_lt_zero _))]
  exact (hz a ha).2.2.2.2.2.1 k i

def Jv (X S b : Nat) (s : q_St) (c : Nat) (μ : Mem) : Prop := K0 μ b ∧ WF μ ∧ q_AC μ b s ∧ q_AR μ b s ∧ Iv s c ∧ mX μ ≤ X + 133 * c + 4 * (sT s).1 ∧ mS μ ≤ S + 4300 * c + 3200 * (sT s).1
def cJ (μ : Mem) (b : Nat) (s s' : q_St) (ν : Mem) : Prop := q_AC ν b s' ∧ K0 ν b ∧ WF ν ∧ q_Fr CS μ ν ∧ (sT s).1 ≤ (sT s').1 ∧ mX ν ≤ mX μ + 133 + 4 * ((sT s').1 - (sT s).1) ∧ mS ν ≤ mS μ + 4300 + 3200 * ((sT s').1 - (sT s).1)
theorem cOK.j {μ ν : Mem} {b x y : Nat} {s s' : q_St} (h : cOK μ b s' x y ν) (hx : x ≤ 133) (hy : y ≤ 4300) (ht : (sT s').1 = (sT s).1) : cJ μ b s s' ν := by
  obtain ⟨h1, h2, h3, h4, h5, h6⟩ := h
  exact ⟨h1, h2, h3, h4, by omega, by omega, by omega⟩
theorem cG.j {μ ν : Mem} {b : Nat} {s s' : q_St} (h : cG μ b s s' ν) : cJ μ b s s' ν := by
  obtain ⟨h1, h2, h3, h4, h5, h6, h7⟩ := h
  exact ⟨h1, h2, h3, h4, h5, by omega, by omega⟩
theorem cJ.tL {μ ν : Mem} {b : Nat} {s s' : q_St} {v : Int64} (h : cJ μ b s s' ν) : cJ μ b s s' (tL ν 377 (b + 65) 0 v) := by
  obtain ⟨h1, h2, h3, h4, h5, h6, h7⟩ := h
  have hk : mK ν (b + 65) ≠ 0 := by rw [h2.k 65 377 (by decide)]; omega
  obtain ⟨w, l⟩ := h3.tL (k := 377) (i := 0) (v := v) hk (by omega)
  exact ⟨h1.fr (q_Fr.tL ν 377 (b + 65) 0 v) rfl (fun o _ => by rw [l]), h2.fr (q_Fr.tL ν 377 (b + 65) 0 v) rfl, w, (h4.tr (q_Fr.tL ν 377 (b + 65) 0 v)).wk rfl, h5, h6, h7⟩
theorem Jv.go {X S b c : Nat} {s s' : q_St} {th : Int32} {μ ν ρ : Mem} (h : Jv X S b s c μ) (h1 : cJ μ b s s' ν) (h2 : rOK ν b s' th ρ) (hI : Iv s' (c + 1)) : Jv X S b s' (c + 1) ρ := by
  obtain ⟨j1, j2, j3, j4, j5, j6, j7⟩ := h
  obtain ⟨a1, a2, a3, a4, a5, a6, a7⟩ := h1
  obtain ⟨r1, r2, r3⟩ := h2
  obtain ⟨w, l⟩ := r2.wf a3 rfl
  have ex : mX ρ = mX ν := r2.2.2.2.2.1
  have es : mS ρ = mS ν := r2.2.2.2.2.2.1
  exact ⟨r2.k0 a2, w, a1.fr r2.1 rfl (fun o _ => by rw [l]), r1, hI, by omega, by omega⟩
theorem law1 {X S b c : Nat} {s s' : q_St} {a : Int32} {μ : Mem} {F G : Nat → M Int32} {K : M Int32} {Q : Int32 → Mem → Prop} (h : Jv X S b s c μ) (hF : q_wp (F b) μ (fun r ν => r = a ∧ cJ μ b s s' ν)) (hG : ∀ ν, K0 ν b → WF ν → q_AR ν b s → q_wp (G (b + 38)) ν (fun r ρ => r = a ∧ rOK ν b s' 0 ρ)) (hI : ∀ ν, q_AC ν b s' → Iv s' (c + 1)) (hQ : ∀ ρ, Jv X S b s' (c + 1) ρ → q_wp K ρ Q) : q_wp (bn (pRc 11 (some b)) fun b1 => bn (F b1) fun v => bn (pRc 12 (some (b + 38))) fun b2 => bn (G b2) fun w => if v = w then K else rz 0) μ Q := by
  rw [wp_bn, xpR11 h.1, wp_bn]
  refine q_wp_mono hF ?_
  rintro r ν ⟨rfl, h1⟩
  rw [wp_bn, xpR12 h1.2.1, wp_bn]
  refine q_wp_mono (hG ν h1.2.1 h1.2.2.1 (h.2.2.2.1.fr h1.2.2.2.1)) ?_
  rintro r ρ ⟨rfl, h2⟩
  rw [wp_ite, if_pos rfl]
  exact hQ ρ (h.go h1 h2 (hI ν h1.1))
theorem lgc_self (x : Int64) : lg_cmp x x = 0 := by
  have h1 : ¬ lg_cmp x x < 0 := fun z => by have := (lgc_lt x x).mp z; omega
  have h2 : ¬ 0 < lg_cmp x x := fun z => by have := (lgc_gt x x).mp z; omega
  apply Int32.toInt_inj.mp
  rw [Int32.lt_iff_toInt_lt] at h1 h2
  have z0 : (0 : Int32).toInt = 0 := rfl
  omega
theorem law2 {X S b c : Nat} {s s' : q_St} {β : Type} {fo : Option β} {cv : β → Int64} {μ : Mem} {F : Nat → M (Option β)} {G : Nat → M β} {K : M Int32} {Q : Int32 → Mem → Prop} (h : Jv X S b s c μ) (hF : q_wp (F b) μ (fun r ν => r = fo ∧ cJ μ b s s' ν)) (hG : ∀ ν, K0 ν b → WF ν → q_AR ν b s → q_wp (G (b + 38)) ν (fun r ρ => (∀ x, fo = some x → r = x) ∧ rOK ν b s' (if fo = none then 1 else 0) ρ)) (hI : ∀ ν, q_AC ν b s' → Iv s' (c + 1)) (hQ : ∀ ρ, Jv X S b s' (c + 1) ρ → q_wp K ρ Q) : q_wp (bn (bn (pRc 11 (some b)) fun b1 => bn (F b1) fun o => ox o (fun v2 => bn (stL 377 (some (b + 65)) (0 : Int32) (cv v2)) fun _ => rt (0 : Int32)) (rt (1 : Int32))) fun v => bn (pRc 12 (some (b + 38))) fun b2 => bn (G b2) fun w => bn (pRc 12 (some (b + 38))) fun b3 => bn (F_X12_thrown b3) fun t => if t = v then if ¬ v = 0 then K else bn (lL 377 (some (b + 65)) (0 : Int32)) fun u => if lg_cmp u (cv w) = 0 then K else rz (0 : Int32) else rz (0 : Int32)) μ Q := by
  have thr : ∀ {ρ : Mem} {Q : Int32 → Mem → Prop}, K0 ρ b → (q_wp (F_X12_thrown (b + 38)) ρ Q ↔ Q (mI ρ 803 (b + 38)) ρ) := fun {ρ Q} hK => by
    unfold F_X12_thrown; rw [wp_bn, xgI12 hK, wp_rt]
  rw [wp_bn, wp_bn, xpR11 h.1, wp_bn]
  refine q_wp_mono hF ?_
  rintro r ν ⟨rfl, h1⟩
  cases r with
  | none =>
    show q_wp (rt (1 : Int32)) ν _
    rw [wp_rt, wp_bn, xpR12 h1.2.1, wp_bn]
    refine q_wp_mono (hG ν h1.2.1 h1.2.2.1 (h.2.2.2.1.fr h1.2.2.2.1)) ?_
    rintro r ρ ⟨_, h2⟩
    rw [if_pos rfl] at h2
    have J := h.go h1 h2 (hI ν h1.1)
    rw [wp_bn, xpR12 J.1, wp_bn, thr J.1, h2.2.2, wp_ite, if_pos rfl, wp_ite, if_pos (by decide)]
    exact hQ ρ J
  | some x =>
    show q_wp (bn (stL 377 (some (b + 65)) (0 : Int32) (cv x)) fun _ => rt (0 : Int32)) ν _
    have kn : mN ν (b + 65) = 1 := h1.2.1.2.2.1 (65, 1) (by decide)
    have i0 : ∀ {n : Nat}, n = 1 → inA (0 : Int32) n := fun e => by rw [e]; exact (inA_i3 (a := 0) (n := 1) (by omega)).mpr (by omega)
    rw [wp_bn, wp_stL, wp_rt, wp_bn]
    refine ⟨h1.2.1.k 65 377 (by decide), i0 kn, ?_⟩
    have h1' : cJ μ b s s' (tL ν 377 (b + 65) 0 (cv x)) := h1.tL
    obtain ⟨ν', e'⟩ : ∃ ν', ν' = tL ν 377 (b + 65) (0 : Int32).toNatClampNeg (cv x) := ⟨_, rfl⟩
    have ev : aL ν' 377 (b + 65) 0 = cv x := by rw [e', aL_tL', if_pos ⟨rfl, rfl, rfl⟩]
    have h1'' : cJ μ b s s' ν' := by rw [e']; exact h1'
    rw [← e', xpR12 h1''.2.1, wp_bn]
    refine q_wp_mono (hG ν' h1''.2.1 h1''.2.2.1 (h.2.2.2.1.fr h1''.2.2.2.1)) ?_
    rintro r ρ ⟨hr, h2⟩
    obtain rfl := hr x rfl
    rw [if_neg (by intro z; cases z)] at h2
    have J := h.go h1'' h2 (hI ν h1.1)
    have kn' : mN ρ (b + 65) = 1 := J.1.2.2.1 (65, 1) (by decide)
    rw [wp_bn, xpR12 J.1, wp_bn, thr J.1, h2.2.2, wp_ite, if_pos rfl, wp_ite, if_neg (fun z => z rfl), wp_bn, wp_lL]
    refine ⟨J.1.k 65 377 (by decide), i0 kn', ?_⟩
    have ev' : aL ρ 377 (b + 65) (0 : Int32).toNatClampNeg = cv r := by
      rw [show (0 : Int32).toNatClampNeg = 0 from rfl, h2.2.1.1.alg 377 rfl]; exact ev
    rw [ev', lgc_self, wp_ite, if_pos rfl]
    exact hQ ρ J
