theorem sLd_i3 {α : Type} {L q : Nat} {xs : Nat → Int32} {F : Int32 → M α} (h : q < L) (hL : L ≤ 4096) : bn (sLd L xs (q_i3 q)) F = F (xs q) := by
  funext μ
  have e : ¬ (q_i3 q < 0 ∨ L ≤ (q_i3 q).toNatClampNeg) := (inA_i3 (a := q) (n := L) (by omega)).mpr h
  have e2 : sLd L xs (q_i3 q) μ = some (xs q, μ) := by unfold sLd; rw [if_pos e, i3_toNat (by omega)]
  unfold bn
  rw [e2]
theorem q_tE {s : q_St} {p : Int32} : (sT (fEnd s p).2).1 = (sT s).1 := by unfold fEnd; split <;> rfl
theorem tFd {s : q_St} {a c d e f : Int32} : (sT (fFeed s a c d e f).2).1 = (sT s).1 := by unfold fFeed; split <;> rfl
theorem tRu {s : q_St} : (sT (fRules s).2).1 = (sT s).1 := by unfold fRules; cases txOf (sP' s) (sU s).length <;> rfl
theorem tPy {s : q_St} {p q : Int32} : (sT (fPay s p q).2).1 = (sT s).1 := by unfold fPay; split <;> rfl
theorem tMb {s : q_St} : (sT (fMember s).2).1 = (sT s).1 := by unfold fMember; split <;> rfl
theorem tRc {s : q_St} {p g l : Int32} : (sT (fReceipt s p g l).2).1 = (sT s).1 := by unfold fReceipt; split <;> rfl
theorem tCn {s : q_St} {m t : Int32} : (sT (fCancel s m t).2).1 = (sT s).1 := by unfold fCancel; split <;> rfl
theorem tDl {s : q_St} {t : Int32} : (sT (fDeliver s t).2).1 = (sT s).1 := by unfold fDeliver; split <;> rfl
theorem tRg {s : q_St} {m d p : Int32} : (sT (fRight s m d p).2).1 = (sT s).1 := by unfold fRight; split <;> rfl
theorem tSk {s : q_St} {p : Int32} : (sT (fStrike s p).2).1 = (sT s).1 := by unfold fStrike; split <;> rfl
theorem tNo {s : q_St} {p m r : Int32} : (sT (fNotice s p m r).2).1 = (sT s).1 := by unfold fNotice; split <;> rfl
theorem tPs {s : q_St} {p : Int32} : (sT (fPass s p).2).1 = (sT s).1 := by unfold fPass; split <;> rfl
theorem tKp {s : q_St} {p : Int32} : (sT (fKeep s p).2).1 = (sT s).1 := by
  unfold fKeep; split
  · unfold fKeepI; split <;> rfl
  · rfl
theorem tNt {s : q_St} {c : Nat} (hc : c ≤ 600) (h : Iv s c) : (sT (fNight s).2).1 = (sT s).1 := by
  unfold fNight; split
  · obtain ⟨i1, i2, i3', i4, i5, i6, i7, i8, i9⟩ := id h
    obtain ⟨a1, a2, a3, a4⟩ := nmL_ok (ru := sU s) (T := q_i3 (dT (sD s))) (P := fun j => pz (nP s j)) (s := wO s ([], (sO s).2)) (B := 100 * c) (nt := (sT s).1) (c := c) (by omega) i1.b i2 (vN (sM s)) (Nat.le_refl _)
    have eT : sT (nR s).2 = sT s := congrArg (fun z => z.2.1) a4
    show (sT (nR s).2).1 = _
    rw [eT]
  · rfl
theorem q_AC.o {μ : Mem} {b : Nat} {s : q_St} (h : q_AC μ b s) : oWf (sO s) := ⟨h.2.2.1.2.2.1, h.2.2.1.2.2.2.1⟩
theorem cJ.of {α : Type} {F : M α} {A : α → Prop} {μ : Mem} {b x y : Nat} {s s' : q_St} (h : q_wp F μ (fun r ν => A r ∧ cOK μ b s' x y ν)) (hx : x ≤ 133) (hy : y ≤ 4300) (ht : (sT s').1 = (sT s).1) : q_wp F μ (fun r ν => A r ∧ cJ μ b s s' ν) := q_wp_mono h fun r ν g => ⟨g.1, g.2.j hx hy ht⟩
theorem cJ.og {α : Type} {F : M α} {A : α → Prop} {μ : Mem} {b : Nat} {s s' : q_St} (h : q_wp F μ (fun r ν => A r ∧ cG μ b s s' ν)) : q_wp F μ (fun r ν => A r ∧ cJ μ b s s' ν) := q_wp_mono h fun r ν g => ⟨g.1, g.2.j⟩
theorem law_one {X S b b' L c f : Nat} {xs : Nat → Int32} {s : q_St} {μ : Mem} {Q : Int32 → Mem → Prop} (hL : L ≤ 4096) (h8 : 8 * c + 8 ≤ L) (h : Jv X S b s c μ) (hQ : ∀ s' ρ, Jv X S b s' (c + 1) ρ → q_wp (F_L_law_L23 b' L xs f (some b) (some (b + 38)) (some (b + 65)) (q_i3 (8 * c + 8))) ρ Q) : q_wp (F_L_law_L23 b' L xs (f + 1) (some b) (some (b + 38)) (some (b + 65)) (q_i3 (8 * c))) μ Q := by
  have hc : c ≤ 600 := by omega
  have hlt : ¬ (Int32.ofNat L - 8 < q_i3 (8 * c)) := by
    have e : Int32.ofNat L - 8 = q_i3 (L - 8) := i3_sub (a := L) (b := 8) (by omega)
    rw [e]
    exact fun z => by have := (i3_lt (by omega) (by omega)).mp z; omega
  obtain ⟨hK, hW, hA, hR, hI, hX, hS⟩ := id h
  unfold F_L_law_L23
  rw [wp_ite, if_neg hlt, sLd_i3 (show 8 * c < L by omega) hL]
  generalize xs (8 * c) &&& (31 : Int32) = op
  have e8 : q_i3 (8 * c) + (8 : Int32) = q_i3 (8 * c + 8) := i3_add _ 8
  have stay : q_wp (F_L_law_L1464 b' L xs (F_L_law_L23 b' L xs f) (some b) (some (b + 38)) (some (b + 65)) (q_i3 (8 * c))) μ Q := by
    unfold F_L_law_L1464
    rw [e8]
    exact hQ s μ ⟨hK, hW, hA, hR, hI.up, by omega, by omega⟩
  rw [swF_cons]
  by_cases e : op = 0
  · rw [if_pos e]
    unfold F_L_law_L1464
    simp (disch := first | assumption | omega) only [i3p1, i3p2, i3p3, i3p4, i3p5, i3p6, i3p7, sLd_i3, e8]
    exact law1 h (cJ.of (c_feed hK hW hA hI _ _ _ _ _) (by omega) (by omega) tFd) (fun ν k w a => r_feed k a hI _ _ _ _ _) (fun _ _ => k_feed hI) fun ρ J => hQ _ ρ J
  rw [if_neg e]
  clear e
  rw [swF_cons]
  by_cases e : op = 1
  · rw [if_pos e]
    unfold F_L_law_L1464
    simp (disch := first | assumption | omega) only [i3p1, i3p2, i3p3, i3p4, i3p5, i3p6, i3p7, sLd_i3, e8]
    exact law1 h (cJ.of (c_end hK hW hA hI _) (by omega) (by omega) q_tE) (fun ν k w a => r_end k a hI _) (fun _ _ => k_end hI) fun ρ J => hQ _ ρ J
  rw [if_neg e]
  clear e
  rw [swF_cons]
  by_cases e : op = 2
  · rw [if_pos e]
    unfold F_L_law_L1464
    rw [e8]
    exact law1 h (cJ.of (c_rules hK hW hA hI) (by omega) (by omega) tRu) (fun ν k w a => r_rules k w.2.1 a hI) (fun ν a => k_rules hI a.2.2.2.2.2.2.2.1.2.1) fun ρ J => hQ _ ρ J
  rw [if_neg e]
  clear e
  rw [swF_cons]
  by_cases e : op = 3
  · rw [if_pos e]
    unfold F_L_law_L1464
    simp (disch := first | assumption | omega) only [i3p1, i3p2, i3p3, i3p4, i3p5, i3p6, i3p7, sLd_i3, e8]
    exact law1 h (cJ.of (c_fault hK hW hA _) (by omega) (by omega) rfl) (fun ν k w a => r_fault k a _) (fun _ _ => hI.up) fun ρ J => hQ _ ρ J
  rw [if_neg e]
  clear e
  rw [swF_cons]
  by_cases e : op = 4
  · rw [if_pos e]
    unfold F_L_rule F_L_law_L433 F_L_law_L1464
    simp (disch := first | assumption | omega) only [i3p1, i3p2, i3p3, i3p4, i3p5, i3p6, i3p7, sLd_i3, e8]
    exact law2 (cv := fun v : Int32 => v.toInt64) h (cJ.of (c_rule hK hW hA _ _ _ _ _ _ _) (by omega) (by omega) rfl) (fun ν k w a => r_rule k a _ _ _ _ _ _ _) (fun _ _ => hI.up) fun ρ J => hQ _ ρ J
  rw [if_neg e]
  clear e
  rw [swF_cons]
  by_cases e : op = 5
  · rw [if_pos e]
    unfold F_L_law_L1464
    rw [e8]
    exact law1 h (cJ.of (c_member hK hW hA hI) (by omega) (by omega) tMb) (fun ν k w a => r_member k a hI) (fun _ _ => k_member hI) fun ρ J => hQ _ ρ J
  rw [if_neg e]
  clear e
  rw [swF_cons]
  by_cases e : op = 6
  · rw [if_pos e]
    unfold F_L_pay F_L_law_L513 F_L_law_L1464
    simp (disch := first | assumption | omega) only [i3p1, i3p2, i3p3, i3p4, i3p5, i3p6, i3p7, sLd_i3, e8]
    exact law2 (cv := fun v : Int64 => v) h (cJ.of (c_pay hK hW hA hI _ _) (by omega) (by omega) tPy) (fun ν k w a => r_pay k a hI _ _) (fun _ _ => k_pay hI) fun ρ J => hQ _ ρ J
  rw [if_neg e]
  clear e
  rw [swF_cons]
  by_cases e : op = 7
  · rw [if_pos e]
    unfold F_L_law_L537 F_L_law_L579 F_L_law_L1464
    simp (disch := first | assumption | omega) only [i3p1, i3p2, i3p3, i3p4, i3p5, i3p6, i3p7, sLd_i3, e8]
    by_cases hb : xs (8 * c + 2) = 0
    · simp only [if_pos hb]
      exact law1 h (cJ.og (c_order hK hW hA hI hc _ _ _ _ _ (Or.inl rfl))) (fun ν k w a => r_order k a hI hA.o hc _ _ _ _ _ (Or.inl rfl)) (fun _ _ => k_order hc hI hA.o) fun ρ J => hQ _ ρ J
    · simp only [if_neg hb]
      exact law1 h (cJ.og (c_order hK hW hA hI hc _ _ _ _ _ (Or.inr rfl))) (fun ν k w a => r_order k a hI hA.o hc _ _ _ _ _ (Or.inr rfl)) (fun _ _ => k_order hc hI hA.o) fun ρ J => hQ _ ρ J
  rw [if_neg e]
  clear e
  rw [swF_cons]
  by_cases e : op = 8
  · rw [if_pos e]
    unfold F_L_law_L1464
    simp (disch := first | assumption | omega) only [i3p1, i3p2, i3p3, i3p4, i3p5, i3p6, i3p7, sLd_i3, e8]
    exact law1 h (cJ.of (c_cancel hK hW hA hI _ _) (by omega) (by omega) tCn) (fun ν k w a => r_cancel k a hI _ _) (fun _ _ => k_cancel hI) fun ρ J => hQ _ ρ J
  rw [if_neg e]
  clear e
  rw [swF_cons]
  by_cases e : op = 9
  · rw [if_pos e]
    unfold F_L_law_L657 F_L_law_L693 F_L_law_L1464
    simp (disch := first | assumption | omega) only [i3p1, i3p2, i3p3, i3p4, i3p5, i3p6, i3p7, sLd_i3, e8]
    by_cases hb : xs (8 * c + 1) = 0
    · simp only [if_pos hb]
      exact law1 h (cJ.of (c_waiting (c := c) hK hW hA _ _ _ _ (Or.inl rfl)) (by omega) (by omega) rfl) (fun ν k w a => r_waiting k a hI hA.o.1 _ _ _ _ (Or.inl rfl)) (fun _ _ => hI.up) fun ρ J => hQ _ ρ J
    · simp only [if_neg hb]
      exact law1 h (cJ.of (c_waiting (c := c) hK hW hA _ _ _ _ (Or.inr rfl)) (by omega) (by omega) rfl) (fun ν k w a => r_waiting k a hI hA.o.1 _ _ _ _ (Or.inr rfl)) (fun _ _ => hI.up) fun ρ J => hQ _ ρ J
  rw [if_neg e]
  clear e
  rw [swF_cons]
  by_cases e : op = 10
  · rw [if_pos e]
    unfold F_L_law_L1464
    simp (disch := first | assumption | omega) only [i3p1, i3p2, i3p3, i3p4, i3p5, i3p6, i3p7, sLd_i3, e8]
    exact law1 h (cJ.of (c_trade hK hW hA hI _ _) (by omega) (by omega) rfl) (fun ν k w a => r_trade k a hI _ _) (fun _ _ => hI.up) fun ρ J => hQ _ ρ J
  rw [if_neg e]
  clear e
  rw [swF_cons]
  by_cases e : op = 11
  · rw [if_pos e]
    unfold F_L_law_L1464
    simp (disch := first | assumption | omega) only [i3p1, i3p2, i3p3, i3p4, i3p5, i3p6, i3p7, sLd_i3, e8]
    exact law1 h (cJ.of (c_strike hK hW hA hI hc _) (by omega) (by omega) tSk) (fun ν k w a => r_strike k a hI hc _) (fun _ _ => k_strike hc hI) fun ρ J => hQ _ ρ J
  rw [if_neg e]
  clear e
  rw [swF_cons]
  by_cases e : op = 12
  · rw [if_pos e]
    unfold F_L_law_L1464
    rw [e8]
    exact law1 h (cJ.of (c_night hK hW hA hI hc) (by omega) (by omega) (tNt hc hI)) (fun ν k w a => r_night k a hI hc) (fun _ _ => k_night hc hI) fun ρ J => hQ _ ρ J
  rw [if_neg e]
  clear e
  rw [swF_cons]
  by_cases e : op = 13
  · rw [if_pos e]
    unfold F_L_money F_L_law_L858 F_L_law_L1464
    simp (disch := first | assumption | omega) only [i3p1, i3p2, i3p3, i3p4, i3p5, i3p6, i3p7, sLd_i3, e8]
    exact law2 (cv := fun v : Int64 => v) h (cJ.of (c_money hK hW hA hI hc _ _) (by omega) (by omega) rfl) (fun ν k w a => r_money k a hI _ _) (fun _ _ => hI.up) fun ρ J => hQ _ ρ J
  rw [if_neg e]
  clear e
  rw [swF_cons]
  by_cases e : op = 14
  · rw [if_pos e]
    unfold F_L_position F_L_law_L926 F_L_law_L1464
    simp (disch := first | assumption | omega) only [i3p1, i3p2, i3p3, i3p4, i3p5, i3p6, i3p7, sLd_i3, e8]
    exact law2 (cv := fun v : Int32 => v.toInt64) h (cJ.of (c_position hK hW hA _ _) (by omega) (by omega) rfl) (fun ν k w a => r_position k a hI _ _) (fun _ _ => hI.up) fun ρ J => hQ _ ρ J
  rw [if_neg e]
  clear e
  rw [swF_cons]
  by_cases e : op = 15
  · rw [if_pos e]
    unfold F_L_law_L1464
    simp (disch := first | assumption | omega) only [i3p1, i3p2, i3p3, i3p4, i3p5, i3p6, i3p7, sLd_i3, e8]
    exact law1 h (cJ.of (c_longOf (c := c) hK hW hA _ _ _) (by omega) (by omega) rfl) (fun ν k w a => r_longOf k a hI hc _ _ _) (fun _ _ => hI.up) fun ρ J => hQ _ ρ J
  rw [if_neg e]
  clear e
  rw [swF_cons]
  by_cases e : op = 16
  · rw [if_pos e]
    unfold F_L_law_L1464
    simp (disch := first | assumption | omega) only [i3p1, i3p2, i3p3, i3p4, i3p5, i3p6, i3p7, sLd_i3, e8]
    exact law1 h (cJ.of (c_count hK hW hA hI _) (by omega) (by omega) rfl) (fun ν k w a => r_count k a hI _) (fun _ _ => hI.up) fun ρ J => hQ _ ρ J
  rw [if_neg e]
  clear e
  rw [swF_cons]
  by_cases e : op = 17
  · rw [if_pos e]
    unfold F_L_law_L1464
    simp (disch := first | assumption | omega) only [i3p1, i3p2, i3p3, i3p4, i3p5, i3p6, i3p7, sLd_i3, e8]
    exact law1 h (cJ.of (c_deliver hK hW hA hI _) (by omega) (by omega) tDl) (fun ν k w a => r_deliver k a hI _) (fun _ _ => k_deliver hI) fun ρ J => hQ _ ρ J
  rw [if_neg e]
  clear e
  rw [swF_cons]
  by_cases e : op = 18
  · rw [if_pos e]
    unfold F_L_law_L1464
    simp (disch := first | assumption | omega) only [i3p1, i3p2, i3p3, i3p4, i3p5, i3p6, i3p7, sLd_i3, e8]
    exact law1 h (cJ.of (c_receipt hK hW hA hI _ _ _) (by omega) (by omega) tRc) (fun ν k w a => r_receipt k a hI _ _ _) (fun _ _ => k_receipt hI) fun ρ J => hQ _ ρ J
  rw [if_neg e]
  clear e
  rw [swF_cons]
  by_cases e : op = 19
  · rw [if_pos e]
    unfold F_L_law_L1464
    simp (disch := first | assumption | omega) only [i3p1, i3p2, i3p3, i3p4, i3p5, i3p6, i3p7, sLd_i3, e8]
    exact law1 h (cJ.of (c_notice hK hW hA hI hc _ _ _) (by omega) (by omega) tNo) (fun ν k w a => r_notice k a hI hc _ _ _) (fun _ _ => k_notice hI) fun ρ J => hQ _ ρ J
  rw [if_neg e]
  clear e
  rw [swF_cons]
  by_cases e : op = 20
  · rw [if_pos e]
    unfold F_L_law_L1464
    simp (disch := first | assumption | omega) only [i3p1, i3p2, i3p3, i3p4, i3p5, i3p6, i3p7, sLd_i3, e8]
    exact law1 h (cJ.of (c_pass hK hW hA hI hc _) (by omega) (by omega) tPs) (fun ν k w a => r_pass k a hI hc _) (fun _ _ => k_pass hI) fun ρ J => hQ _ ρ J
  rw [if_neg e]
  clear e
  rw [swF_cons]
  by_cases e : op = 21
  · rw [if_pos e]
    unfold F_L_law_L1464
    simp (disch := first | assumption | omega) only [i3p1, i3p2, i3p3, i3p4, i3p5, i3p6, i3p7, sLd_i3, e8]
    exact law1 h (cJ.of (c_keep hK hW hA hI hc _) (by omega) (by omega) tKp) (fun ν k w a => r_keep k a hI hc _) (fun _ _ => k_keep hc hI) fun ρ J => hQ _ ρ J
  rw [if_neg e]
  clear e
  rw [swF_cons]
  by_cases e : op = 22
  · rw [if_pos e]
    unfold F_L_law_L1464
    simp (disch := first | assumption | omega) only [i3p1, i3p2, i3p3, i3p4, i3p5, i3p6, i3p7, sLd_i3, e8]
    exact law1 h (cJ.of (c_told hK hW hA hI _ _) (by omega) (by omega) rfl) (fun ν k w a => r_told k a hI _ _) (fun _ _ => hI.up) fun ρ J => hQ _ ρ J
  rw [if_neg e]
  clear e
  rw [swF_cons]
  by_cases e : op = 23
  · rw [if_pos e]
    unfold F_L_law_L1464
    simp (disch := first | assumption | omega) only [i3p1, i3p2, i3p3, i3p4, i3p5, i3p6, i3p7, sLd_i3, e8]
    exact law1 h (cJ.of (c_stored hK hW hA hI _ _) (by omega) (by omega) rfl) (fun ν k w a => r_stored k a hI _ _) (fun _ _ => hI.up) fun ρ J => hQ _ ρ J
  rw [if_neg e]
  clear e
  rw [swF_cons]
  by_cases e : op = 24
  · rw [if_pos e]
    unfold F_L_law_L1464
    simp (disch := first | assumption | omega) only [i3p1, i3p2, i3p3, i3p4, i3p5, i3p6, i3p7, sLd_i3, e8]
    exact law1 h (cJ.of (c_squeeze hK hW hA hI _ _) (by omega) (by omega) rfl) (fun ν k w a => r_squeeze k a hI hc _ _) (fun _ _ => hI.up) fun ρ J => hQ _ ρ J
  rw [if_neg e]
  clear e
  rw [swF_cons]
  by_cases e : op = 25
  · rw [if_pos e]
    unfold F_L_law_L1464
    simp (disch := first | assumption | omega) only [i3p1, i3p2, i3p3, i3p4, i3p5, i3p6, i3p7, sLd_i3, e8]
    exact law1 h (cJ.of (c_right hK hW hA hI _ _ _) (by omega) (by omega) tRg) (fun ν k w a => r_right k a hI _ _ _) (fun _ _ => k_right hI) fun ρ J => hQ _ ρ J
  rw [if_neg e]
  clear e
  rw [swF_cons]
  by_cases e : op = 26
  · rw [if_pos e]
    unfold F_L_law_L1464
    simp (disch := first | assumption | omega) only [i3p1, i3p2, i3p3, i3p4, i3p5, i3p6, i3p7, sLd_i3, e8]
    exact law1 h (cJ.of (c_settle hK hW hA hI _ _ _) (by omega) (by omega) rfl) (fun ν k w a => r_settle k a hI _ _ _) (fun _ _ => hI.up) fun ρ J => hQ _ ρ J
  rw [if_neg e]
  clear e
  rw [swF_cons]
  by_cases e : op = 27
  · rw [if_pos e]
    unfold F_L_equity F_L_law_L1461 F_L_law_L1464
    simp (disch := first | assumption | omega) only [i3p1, i3p2, i3p3, i3p4, i3p5, i3p6, i3p7, sLd_i3, e8]
    exact law2 (cv := fun v : Int64 => v) h (cJ.of (c_equity hK hW hA hI _ _ _) (by omega) (by omega) rfl) (fun ν k w a => r_equity k a hI _ _ _) (fun _ _ => hI.up) fun ρ J => hQ _ ρ J
  rw [if_neg e]
  clear e
  exact stay
theorem law_all {X S b b' L : Nat} {xs : Nat → Int32} (hL : L ≤ 4096) : ∀ (f c : Nat) (s : q_St) (μ : Mem), 513 ≤ f + c → 8 * c ≤ L → Jv X S b s c μ → q_wp (F_L_law_L23 b' L xs f (some b) (some (b + 38)) (some (b + 65)) (q_i3 (8 * c))) μ (fun r ν => r = 1 ∧ mX ν ≤ X + 70896 ∧ mS ν ≤ S + 4441600)
  | 0, c, s, μ, h1, h2, h => absurd h1 (by omega)
  | f + 1, c, s, μ, h1, h2, h => by
    by_cases h8 : 8 * c + 8 ≤ L
    · refine law_one hL h8 h fun s' ρ J => ?_
      have := law_all (b' := b') (xs := xs) hL f (c + 1) s' ρ (by omega) (by omega) J
      rw [show 8 * (c + 1) = 8 * c + 8 by omega] at this
      exact this
    · have hlt : Int32.ofNat L - 8 < q_i3 (8 * c) := by
        rw [Int32.lt_iff_toInt_lt, i3_toInt (by omega), Int32.toInt_sub]
        have e : (Int32.ofNat L).toInt = L := i3_toInt (n := L) (by omega)
        have e8 : (8 : Int32).toInt = 8 := rfl
        rw [e, e8, Int.bmod_eq_of_le (by omega) (by omega)]
        omega
      unfold F_L_law_L23
      rw [wp_ite, if_pos hlt, wp_rz1]
      obtain ⟨hK, hW, hA, hR, hI, hX, hS⟩ := h
      have h7 := hI.2.2.2.1.1
      exact ⟨rfl, by omega, by omega⟩
theorem law_ok {μ0 : Mem} {b' L : Nat} {xs : Nat → Int32} (hz : Zz μ0) (hT : TT μ0) (hk : ∀ a, mK μ0 a = 0) (hL : L ≤ 4096) : q_wp (F_L_law b' L xs) μ0 (fun r ν => r = 1 ∧ mX ν ≤ mX μ0 + 601024 ∧ mS ν ≤ mS μ0 + 7293034) := by
  refine init_ok hz hT hk fun ν h1 h2 h3 h4 h5 h6 => ?_
  have := law_all (X := mX μ0 + 66) (S := mS μ0 + 55759) (b := mX μ0) (b' := b') (xs := xs) hL FU 0 q_s0 ν (by unfold FU; omega) (by omega) ⟨h1, h2, h3, h4, s0_iv, by omega, by omega⟩
  refine q_wp_mono this ?_
  rintro r ρ ⟨e1, e2, e3⟩
  exact ⟨e1, by omega, by omega⟩
