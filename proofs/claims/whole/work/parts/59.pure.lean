def cF (μ : Mem) (b : Nat) (s s' : q_St) (ν : Mem) : Prop := q_AC ν b s' ∧ K0 ν b ∧ WF ν ∧ q_Fr CS μ ν ∧ (sT s).1 ≤ (sT s').1 ∧ mX ν ≤ mX μ + 4 * ((sT s').1 - (sT s).1) ∧ mS ν ≤ mS μ + 3200 * ((sT s').1 - (sT s).1)
theorem cF.tr {μ ν ρ : Mem} {b : Nat} {s t u : q_St} (h : cF μ b s t ν) (g : cF ν b t u ρ) : cF μ b s u ρ := by
  obtain ⟨h1, h2, h3, h4, h5, h6, h7⟩ := h
  obtain ⟨g1, g2, g3, g4, g5, g6, g7⟩ := g
  exact ⟨g1, g2, g3, (h4.tr g4).wk rfl, by omega, by omega, by omega⟩
theorem c_fill1 {μ : Mem} {b c mem j n : Nat} {s : q_St} {B : Int} {buy price left : Int32} {o : Od} {l : List Od} {k27 : Nat → Int32 → Int32 → Int32 → Int32 → Option Nat → Int32 → Int32 → M Int32} {Q : Int32 → Mem → Prop} (hK : K0 μ b) (hW : WF μ) (hA : q_AC μ b s) (hI : Ib s B c) (hc : c ≤ 600) (hB : B ≤ 900000000) (hbuy : buy = 0 ∨ buy = 1) (hm : mem < vN (sM s)) (hj : j < 6) (hs : q_side (sO s).1 (q_i3 j) (opp buy) = o :: l) (hl : 0 < left.toInt) (hnt : (sT s).1 < 700)
    (hQ : ∀ ν, cF μ b s (stepF s mem buy j o (q_minL (oL o) left)) ν → q_wp (k27 b (q_i3 mem) buy (q_i3 j) price (some (b + sdO j (opp buy))) (left - q_minL (oL o) left) (q_i3 (n + 1))) ν Q) :
    q_wp (F_X11_fill_L158 k27 b (q_i3 mem) buy (q_i3 j) price (some (b + sdO j (opp buy))) left (q_i3 n) (some ((q_lst μ (b + sdO j (opp buy))).getD 0 0)) (q_minL (oL o) left) (q_i3 (bI mem buy o)) (q_i3 (sI' mem buy o))) μ Q := by
  obtain ⟨hM, hL, hO, hT, hD, hR, hN, hU, hP⟩ := id hA
  have hop : opp buy = 0 ∨ opp buy = 1 := by unfold opp; split; exact Or.inr rfl; exact Or.inl rfl
  have hp0 : 0 < (q_side (sO s).1 (q_i3 j) (opp buy)).length := by rw [hs]; simp
  have eo : (q_side (sO s).1 (q_i3 j) (opp buy)).getD 0 q_o0 = o := by rw [hs]; rfl
  have hos : o ∈ (sO s).1 := (side_mem.mp (show o ∈ q_side (sO s).1 (q_i3 j) (opp buy) by rw [hs]; simp)).1
  have hin : Inc (sO s).1 := hO.2.2.1
  have hol := hI.2.2.1.2.2 o hos
  have hpart := minL_bd (x := oL o) (left := left) (by omega) hl
  obtain ⟨part, ep⟩ : ∃ part, part = q_minL (oL o) left := ⟨_, rfl⟩
  rw [← ep] at hpart hQ ⊢
  obtain ⟨_, hbi, hsi, _⟩ := ib_step (buy := buy) hI hB hin hO.2.2.2.1 hm hj hos (part := part) (by omega) hnt
  obtain ⟨a1, a2, a3⟩ := co_at hO hj hop hp0
  rw [eo] at a1 a3
  obtain ⟨r9, hr9⟩ : ∃ r9, r9 = (q_lst μ (b + sdO j (opp buy))).getD 0 0 := ⟨_, rfl⟩
  rw [← hr9] at a1 a2 a3 ⊢
  have hlen9 := co_len hO hj hop
  have hm9 : r9 ∈ q_lst μ (b + sdO j (opp buy)) := by rw [hr9]; exact getD_mem (by omega)
  have aP9 : mI μ 577 r9 = oP o := by rw [← a1]; rfl
  have aL9 : mI μ 579 r9 = oL o := by rw [← a1]; rfl
  have hz := hW.z
  unfold F_X11_fill_L158
  rw [wp_bn, xgP11_4 hK, wp_bn, wp_newO hz, wp_bn]
  obtain ⟨r, hr⟩ : ∃ r, r = mX μ := ⟨_, rfl⟩
  rw [← hr]
  have n1 := (Nw.rf hW).al 11 0 7 (by omega)
  have kr1 : mK (q_al (10 + 1) 0 7 μ) r = 11 := by rw [mK_al, if_pos hr]
  have hne9 : r9 ≠ r := fun z => by have := hz.lt (a := r9) (by omega); omega
  have k91 : mK (q_al (10 + 1) 0 7 μ) r9 = 9 + 1 := by rw [mK_al, if_neg (by omega)]; exact a2
  rw [wp_gI, show mI (q_al (10 + 1) 0 7 μ) (64 * 9 + 1) r9 = oP o from aP9]
  refine ⟨k91, ?_⟩
  have K1 : K0 (q_al (10 + 1) 0 7 μ) b := hK.fr (q_Fr.nw hz 11 0 7) rfl
  rw [wp_bn, xgI11 K1, show mI (q_al (10 + 1) 0 7 μ) (64 * 11 + 8) b = q_i3 (dT (sD s)) from hD.1, wp_bn, wp_pRc]
  refine ⟨kr1, ?_⟩
  unfold F_X10_init
  simp only [wp_bn, wp_wI, wp_rt, Nat.reduceMul, Nat.reduceAdd]
  refine ⟨kr1, kr1, kr1, kr1, kr1, kr1, ?_⟩
  have nz : mK (q_al (10 + 1) 0 7 μ) r ≠ 0 := by omega
  have n2 := (((((n1.sI (f := 640) (a := r) (v := q_i3 j) nz (by omega)).sI (f := 641) (a := r) (v := oP o) nz (by omega)).sI (f := 642) (a := r) (v := part) nz (by omega)).sI (f := 643) (a := r) (v := q_i3 (bI mem buy o)) nz (by omega)).sI (f := 644) (a := r) (v := q_i3 (sI' mem buy o)) nz (by omega)).sI (f := 645) (a := r) (v := q_i3 (dT (sD s))) nz (by omega)
  obtain ⟨μ3, e3⟩ : ∃ μ3, μ3 = sI (sI (sI (sI (sI (sI (q_al 11 0 7 μ) 640 r (q_i3 j)) 641 r (oP o)) 642 r part) 643 r (q_i3 (bI mem buy o))) 644 r (q_i3 (sI' mem buy o))) 645 r (q_i3 (dT (sD s))) := ⟨_, rfl⟩
  have f3 : q_Fr [640, 641, 642, 643, 644, 645] μ μ3 := by rw [e3]; exact (((((((q_Fr.nw hz 11 0 7).tr (q_Fr.sI _ 640 r _)).tr (q_Fr.sI _ 641 r _)).tr (q_Fr.sI _ 642 r _)).tr (q_Fr.sI _ 643 r _)).tr (q_Fr.sI _ 644 r _)).tr (q_Fr.sI _ 645 r _)).wk rfl
  rw [← e3] at n2
  show q_wp (pRc 13 (some (b + 34))) (sI (sI (sI (sI (sI (sI (q_al 11 0 7 μ) 640 r (q_i3 j)) 641 r (oP o)) 642 r part) 643 r (q_i3 (bI mem buy o))) 644 r (q_i3 (sI' mem buy o))) 645 r (q_i3 (dT (sD s)))) _
  rw [← e3]
  have K3 : K0 μ3 b := hK.fr f3 rfl
  have kr3 : mK μ3 r = 11 := by rw [e3]; exact kr1
  rw [xpL_34 K3]
  have l3 : q_lst μ3 (b + 34) = q_lst μ (b + 34) := by rw [n2.2.1]
  refine q_wp_mono (ls_add n2.1 (K3.k 34 14 (by decide)) (by omega) (n2.nin hW (by omega)) (by rw [l3, hT.1]; omega)) ?_
  rintro _ μ4 ⟨_, u⟩
  have hC3 : Cs [640, 641, 642, 643, 644, 645] [] 1 7 b μ μ3 := n2.cs f3 (by rw [e3]; exact Nat.le_refl _) (by rw [e3]; exact Nat.le_refl _)
  have hC4 := hC3.tr (u.cs K3)
  have K4 : K0 μ4 b := hC4.k0 hK rfl
  have W4 := hC4.1
  rw [l3] at u
  have l4 : q_lst μ4 (b + 34) = q_lst μ (b + 34) ++ [r] := u.2.2.1
  have f4 := u.2.1
  have T4 : CT μ4 b ((sT s).1 + 1, q_upd (sT s).2 (sT s).1 (tRow (q_i3 j) (oP o) part (q_i3 (bI mem buy o)) (q_i3 (sI' mem buy o)) (q_i3 (dT (sD s))))) := by
    refine TX.app (o := 34) (k := 11) (W := 7) (tag := fun w => 640 + w) hT.tx l4 (fun a ha => hC4.2.1.k ha (by omega)) (f4.k kr3 (by omega)) ?_ ?_
    · intro w hw
      show mI μ4 (640 + w) r = _
      rw [f4.i _ (ncw (n := 7) (by decide) hw), e3]
      have b6 : mI μ 646 r = 0 := (hz r (by omega)).1 646
      rcases (show w = 0 ∨ w = 1 ∨ w = 2 ∨ w = 3 ∨ w = 4 ∨ w = 5 ∨ w = 6 by omega) with rfl | rfl | rfl | rfl | rfl | rfl | rfl <;> simp [mI_sI', tRow, mI_al, b6]
    · intro w hw a ha
      have hne : a ≠ r := fun z => hW.nin (hK.k 34 14 (by decide)) (show mX μ ≤ r by omega) (z ▸ ha)
      show mI μ4 (640 + w) a = _
      rw [f4.i _ (ncw (n := 7) (by decide) hw), e3]
      simp only [mI_sI', hne, and_false, if_false, mI_al]
  have M4 : q_CM μ4 b (sM s) := hM.fr hC4.2.1 (hC4.2.2.1 33 (by decide) (by decide)) rfl
  have L4 : q_CL μ4 b (sG s) := hL.fr hC4.2.1 (fun i hi => hC4.2.2.1 _ (lgO_lo hi) (lgNo (by decide) hi)) rfl
  have O4 : q_CO μ4 b (sO s) := hO.fr hC4.2.1 (fun i hi s => hC4.2.2.1 _ (sdO_lo hi s) (sdNo (by decide) hi s)) rfl
  have eL4 : q_lst μ4 (b + sdO j (opp buy)) = q_lst μ (b + sdO j (opp buy)) := hC4.2.2.1 _ (sdO_lo hj _) (sdNo (by decide) hj _)
  have r94 : r9 = (q_lst μ4 (b + sdO j (opp buy))).getD 0 0 := by rw [eL4, hr9]
  have k94 : mK μ4 r9 = 9 + 1 := hC4.2.1.k a2 (by omega)
  rw [wp_gI, show mI μ4 (64 * 9 + 1) r9 = oP o by rw [hC4.2.1.i _ rfl]; exact aP9]
  refine ⟨k94, ?_⟩
  rw [xpR11 K4]
  have hIL := hI.2.1 j hj
  have hbd : ∀ i, i < 12 → ∀ k, k < 6 → -2000000000 ≤ (vPs (sM s) i k).toInt ∧ (vPs (sM s) i k).toInt ≤ 2000000000 := fun i hi k hk => by have := hI.1.2.2.2.1 i hi k hk; omega
  refine q_wp_mono (c_exchange (p := oP o) K4 W4 M4 L4 O4 hI.1.1 hbi hsi hj (lots := part) (by omega) hbd (by omega) (fun q hq => (hIL.2.1 q hq).2.1)) ?_
  rintro _ μ5 ⟨M5, L5, O5, C5⟩
  have K5 := C5.k0 K4 rfl
  have W5 := C5.1
  have hC5 := hC4.tr C5
  have nl5 : ∀ x, x ∈ q_LO → x ≠ 12 + 4 * j → q_lst μ5 (b + x) = q_lst μ4 (b + x) := fun x hx hne => C5.2.2.1 x hx (by simpa using hne)
  have hsdn : sdO j (opp buy) ≠ 12 + 4 * j := by unfold sdO; split <;> omega
  have eL5 : q_lst μ5 (b + sdO j (opp buy)) = q_lst μ (b + sdO j (opp buy)) := by rw [nl5 _ (sdO_lo hj _) hsdn, eL4]
  have r95 : r9 = (q_lst μ5 (b + sdO j (opp buy))).getD 0 0 := by rw [eL5, hr9]
  obtain ⟨c1, c2, c3⟩ := co_at O5 hj hop hp0
  rw [eo, ← r95] at c1
  rw [← r95] at c2
  have aL5 : mI μ5 579 r9 = oL o := by rw [← c1]; rfl
  rw [wp_gI, show mI μ5 (64 * 9 + 3) r9 = oL o from aL5]
  refine ⟨c2, c2, ?_⟩
  have O6 := co_lots (l := oL o - part) K5 W5 O5 hj hop hp0
  rw [← r95, eo] at O6
  have md6 : Md [579] μ5 (sI μ5 579 r9 (oL o - part)) := Md.sI (by omega)
  obtain ⟨μ6, e6⟩ : ∃ μ6, μ6 = sI μ5 579 r9 (oL o - part) := ⟨_, rfl⟩
  show q_wp _ (sI μ5 579 r9 (oL o - part)) _
  rw [← e6] at O6 md6 ⊢
  have K6 := md6.k0 K5
  obtain ⟨W6, l6⟩ := md6.wf W5 rfl
  have C6 := md6.cs (b := b) W5 rfl
  have hr9L : ∀ i, i < 6 → r9 ∉ q_lst μ5 (b + (12 + 4 * i)) := fun i hi z => by
    have := W5.2.2.2.2.1 _ _ (K5.mo hi).2.2.2.2.2.2 (K5.lo (sdO_lo hj (opp buy))) r9 z (by rw [eL5]; exact hm9)
    have : sdO j (opp buy) = 11 + 4 * j ∨ sdO j (opp buy) = 10 + 4 * j := by unfold sdO; split; exact Or.inl rfl; exact Or.inr rfl
    omega
  have L6 : q_CL μ6 b (mvG (sM s) (sG s).1 (bI mem buy o) (sI' mem buy o) j part, (sG s).2) := by
    refine L5.fr' (fun i hi => by rw [l6]) (fun a ha => by rw [md6.2.2.1]) (fun i hi a ha => ?_) (fun i hi => by rw [md6.1.i 131 rfl])
    have : a ≠ r9 := fun z => hr9L i hi (z ▸ ha)
    rw [md6.1.i 576 rfl, e6, mI_sI', if_neg (fun z => this z.2)]; exact ⟨rfl, rfl⟩
  have hC6 := hC5.tr C6
  have k96 : mK μ6 r9 = 9 + 1 := by rw [md6.2.2.1]; exact c2
  rw [wp_gI, show mI μ6 (64 * 9 + 3) r9 = oL o - part by rw [e6, mI_sI', if_pos ⟨rfl, rfl⟩]]
  refine ⟨k96, ?_⟩
  have fin : ∀ (ν : Mem) (S : List Nat) (x y : Nat), Cs S [sdO j (opp buy)] x y b μ6 ν → x = 0 → y = 0 → subL S [832, 833, 834, 2372] = true → q_CO ν b (stepO (sO s) o part) → cF μ b s (stepF s mem buy j o part) ν := by
    intro ν S x y C7 hx hy hS O7
    have C7' : Cs [832, 833, 834, 2372] [sdO j (opp buy)] x y b μ6 ν := C7.wk hS (by unfold subL; simp) (Nat.le_refl _) (Nat.le_refl _)
    have hC := hC6.tr C7'
    have ns : ∀ z, z ∈ q_LO → z ≠ 34 → z ≠ 12 + 4 * j → z ≠ sdO j (opp buy) → q_lst ν (b + z) = q_lst μ (b + z) := fun z hz h1 h2 h3 => hC.2.2.1 z hz (by simp; exact ⟨h1, h2, h3⟩)
    have nsd : sdO j (opp buy) = 11 + 4 * j ∨ sdO j (opp buy) = 10 + 4 * j := by unfold sdO; split; exact Or.inl rfl; exact Or.inr rfl
    have n7 : ∀ z, z ∈ q_LO → z ≠ sdO j (opp buy) → q_lst ν (b + z) = q_lst μ6 (b + z) := fun z hz h => C7'.2.2.1 z hz (by simpa using h)
    have C57 := (C5.tr C6).tr C7'
    have n57 : ∀ z, z ∈ q_LO → z ≠ 12 + 4 * j → z ≠ sdO j (opp buy) → q_lst ν (b + z) = q_lst μ4 (b + z) := fun z hz h1 h2 => C57.2.2.1 z hz (by simp; exact ⟨h1, h2⟩)
    have C67 := C6.tr C7'
    have n67 : ∀ z, z ∈ q_LO → z ≠ sdO j (opp buy) → q_lst ν (b + z) = q_lst μ5 (b + z) := fun z hz h => C67.2.2.1 z hz (by simpa using h)
    refine ⟨⟨M5.fr C67.2.1 (n67 33 (by decide) (by omega)) rfl, L6.fr C7'.2.1 (fun i hi => n7 _ (lgO_lo hi) (by omega)) rfl, O7, T4.fr C57.2.1 (n57 34 (by decide) (by omega) (by omega)) rfl, hD.fr hC.2.1 (ns 37 (by decide) (by omega) (by omega) (by omega)) rfl, hR.fr hC.2.1 (ns 35 (by decide) (by omega) (by omega) (by omega)) rfl, hN.fr hC.2.1 (ns 36 (by decide) (by omega) (by omega) (by omega)) rfl, hU.fr hC.2.1 (ns 5 (by decide) (by omega) (by omega) (by omega)) rfl, hP.fr hC.2.1 rfl⟩, hC.k0 hK rfl, hC.1, hC.2.1.wk rfl, by show (sT s).1 ≤ (sT s).1 + 1; omega, ?_, ?_⟩
    · have := hC.2.2.2.1
      show mX ν ≤ mX μ + 4 * ((sT s).1 + 1 - (sT s).1); omega
    · have := hC.2.2.2.2
      rw [l3, hT.1] at this
      show mS ν ≤ mS μ + 3200 * ((sT s).1 + 1 - (sT s).1)
      have := hIL.1
      omega
  unfold F_X11_fill_L241
  rw [i3_1, wp_ite]
  by_cases hz0 : oL o - part = 0
  · rw [if_neg (fun z => z hz0)]
    have eL6 : q_lst μ6 (b + sdO j (opp buy)) = q_lst μ (b + sdO j (opp buy)) := by rw [l6, eL5]
    have k6l := K6.lo (sdO_lo hj (opp buy))
    rw [wp_bn, wp_pRc]
    refine ⟨k6l, ?_⟩
    rw [wp_bn, show (0 : Int32) = q_i3 0 from rfl]
    refine q_wp_mono (ls_rem' W6 k6l (by rw [eL6]; omega)) ?_
    rintro _ ν ⟨u7, hx7⟩
    refine hQ ν ?_
    have C7 := u7.cs K6
    have hin6 : Inc (ltS (sO s).1 (q_oN o) (oL o - part)) := ltS_inc hin
    have hlen6 := co_len O6 hj hop
    have hp6 : 0 < (q_side (ltS (sO s).1 (q_oN o) (oL o - part)) (q_i3 j) (opp buy)).length := by
      have : (q_lst μ6 (b + sdO j (opp buy))).length = (q_side (ltS (sO s).1 (q_oN o) (oL o - part)) (q_i3 j) (opp buy)).length := hlen6
      rw [eL6] at this; omega
    obtain ⟨kk, hkk, ekk⟩ := List.mem_iff_getElem.mp hos
    have hkx : kOx (sO s).1 (q_oN o) = kk := kOx_n hin hkk (by rw [ekk])
    have hk6 : kOx (sO s).1 (q_oN o) < (ltS (sO s).1 (q_oN o) (oL o - part)).length := by unfold ltS; rw [List.length_map, hkx]; exact hkk
    have e1 : q_oN ((ltS (sO s).1 (q_oN o) (oL o - part)).getD (kOx (sO s).1 (q_oN o)) q_o0) = q_oN o := by
      rw [hkx]
      have : (ltS (sO s).1 (q_oN o) (oL o - part)).getD kk q_o0 = setLn (q_oN o) (oL o - part) o := by
        unfold ltS; simp only [List.getD_eq_getElem?_getD, List.getElem?_map]; rw [List.getElem?_eq_getElem hkk, ekk]; rfl
      rw [this]; exact (setLn_f (q_oN o) (oL o - part) o).1
    have e2 : q_oN ((q_side (ltS (sO s).1 (q_oN o) (oL o - part)) (q_i3 j) (opp buy)).getD 0 q_o0) = q_oN o := by
      have := (co_at O6 hj hop hp6).1
      have h2 : q_oN (odAt μ6 (opp buy) (q_i3 j) ((q_lst μ6 (b + sdO j (opp buy))).getD 0 0)) = q_oN o := by
        rw [eL6, ← hr9]
        show (mI μ6 578 r9).toNatClampNeg = q_oN o
        rw [md6.1.i 578 rfl]
        have : q_oN (odAt μ5 (opp buy) (q_i3 j) r9) = q_oN o := by rw [c1]
        exact this
      rw [this] at h2; exact h2
    have eq : (ltS (sO s).1 (q_oN o) (oL o - part)).getD (kOx (sO s).1 (q_oN o)) q_o0 = (q_side (ltS (sO s).1 (q_oN o) (oL o - part)) (q_i3 j) (opp buy)).getD 0 q_o0 :=
      hin6.inj (by rw [getD_o hk6]; exact List.getElem_mem _) (side_mem.mp (by rw [getD_o hp6]; exact List.getElem_mem _)).1 (by rw [e1, e2])
    have O7 := co_rm K6 O6 hj hop hp6 hk6 eq u7
    have O7' : q_CO ν b (stepO (sO s) o part) := by unfold stepO; rw [if_pos hz0]; exact O7
    exact fin ν [832, 833, 834, 2372] 0 0 ⟨C7.1, C7.2.1, C7.2.2.1, by omega, C7.2.2.2.2⟩ rfl rfl rfl O7'
  · rw [if_pos hz0]
    refine hQ μ6 ?_
    have O7' : q_CO μ6 b (stepO (sO s) o part) := by unfold stepO; rw [if_neg hz0]; exact O6
    exact fin μ6 [] 0 0 ((Cs.rf W6).wk rfl (by unfold subL; rfl) (by omega) (by omega)) rfl rfl rfl O7'

theorem fill_len {s : q_St} {mem j : Nat} {buy : Int32} {o : Od} {part : Int32} {μ : Mem} {b : Nat} (hO : q_CO μ b (sO s)) (hO' : q_CO μ b (sO s)) : True := trivial
theorem side_step {v : q_VO} {o : Od} {l : List Od} {j : Nat} {sd part left : Int32} (hin : Inc v.1) (hs : q_side v.1 (q_i3 j) sd = o :: l) (hl : 0 < left.toInt) (ho : 1 ≤ (oL o).toInt) (hp : part = q_minL (oL o) left) (hleft : 0 < (left - part).toInt) : (q_side (stepO v o part).1 (q_i3 j) sd).length + 1 = (q_side v.1 (q_i3 j) sd).length := by
  have hmo : o ∈ q_side v.1 (q_i3 j) sd := by rw [hs]; simp
  obtain ⟨om, ot, ob⟩ := side_mem.mp hmo
  have hpb := minL_bd (x := oL o) (left := left) ho hl
  rw [← hp] at hpb
  have hz : oL o - part = 0 := by
    have e : part = oL o := by
      rw [hp]; unfold q_minL
      by_cases h : oL o < left
      · rw [if_pos h]
      · exfalso
        have : part = left := by rw [hp]; unfold q_minL; rw [if_neg h]
        rw [this] at hleft
        simp at hleft
    rw [e]; simp
  unfold stepO
  simp only [hz, if_true]
  obtain ⟨k, hk, ek⟩ := List.mem_iff_getElem.mp om
  have hkx : kOx v.1 (q_oN o) = k := kOx_n hin hk (by rw [ek])
  rw [hkx, side_len, side_len]
  have hmap : ∀ (l : List Od), ((ltS l (q_oN o) 0).filter fun x => oT x == q_i3 j && oB x == sd).length = (l.filter fun x => oT x == q_i3 j && oB x == sd).length := by
    intro l
    induction l with
    | nil => rfl
    | cons y l ih =>
      unfold ltS at ih ⊢
      obtain ⟨f1, f2, f3, f4, f5, f6⟩ := setLn_f (q_oN o) 0 y
      rw [List.map_cons, List.filter_cons, List.filter_cons, f3, f4]
      split
      · rw [List.length_cons, List.length_cons, ih]
      · exact ih
  have her : ∀ (l : List Od) (k : Nat), k < l.length → (oT (l.getD k q_o0) == q_i3 j && oB (l.getD k q_o0) == sd) = true → ((l.eraseIdx k).filter fun x => oT x == q_i3 j && oB x == sd).length + 1 = (l.filter fun x => oT x == q_i3 j && oB x == sd).length := by
    intro l
    induction l with
    | nil => intro k hk; simp at hk
    | cons y l ih =>
      intro k hk hc
      cases k with
      | zero =>
        have hc : (oT y == q_i3 j && oB y == sd) = true := hc
        rw [List.eraseIdx_cons_zero, List.filter_cons, if_pos hc, List.length_cons]
      | succ k =>
        have := ih k (by simpa using hk) (by simpa using hc)
        rw [List.eraseIdx_cons_succ, List.filter_cons, List.filter_cons]
        split
        · rw [List.length_cons, List.length_cons]; omega
        · exact this
  have hlen : (ltS v.1 (q_oN o) 0).length = v.1.length := by unfold ltS; rw [List.length_map]
  have hg : (ltS v.1 (q_oN o) 0).getD k q_o0 = setLn (q_oN o) 0 o := by
    unfold ltS; simp only [List.getD_eq_getElem?_getD, List.getElem?_map]; rw [List.getElem?_eq_getElem hk, ek]; rfl
  obtain ⟨f1, f2, f3, f4, f5, f6⟩ := setLn_f (q_oN o) 0 o
  rw [her _ k (by omega) (by rw [hg, f3, f4, ot, ob]; simp), hmap]
theorem c_fillL {b c mem j : Nat} {buy price : Int32} (hc : c ≤ 600) (hbuy : buy = 0 ∨ buy = 1) (hj : j < 6) : ∀ (q : Nat) (s : q_St) (μ : Mem) (B : Int) (left : Int32) (n f : Nat), K0 μ b → WF μ → q_AC μ b s → Ib s B c → B + left.toInt ≤ 900000000 → mem < vN (sM s) → left.toInt ≤ 50 → 0 ≤ left.toInt → (0 < left.toInt → (q_side (sO s).1 (q_i3 j) (opp buy)).length < q) → (0 < left.toInt → n + (q_side (sO s).1 (q_i3 j) (opp buy)).length ≤ 120) → n ≤ 120 → q ≤ f → 0 < f →
    q_wp (F_X11_fill_L27 f b (q_i3 mem) buy (q_i3 j) price (some (b + sdO j (opp buy))) left (q_i3 n)) μ (fun r ν => r = (fillS mem buy j price q s left).1 ∧ cF μ b s (fillS mem buy j price q s left).2 ν) := by
  intro q
  have z0 : (0 : Int32).toInt = 0 := rfl
  have hop : opp buy = 0 ∨ opp buy = 1 := by unfold opp; split; exact Or.inr rfl; exact Or.inl rfl
  induction q with
  | zero =>
    intro s μ B left n f hK hW hA hI hB hm h50 h0 hq hn hn1 hqf hf
    obtain ⟨f, rfl⟩ : ∃ g, f = g + 1 := ⟨f - 1, by omega⟩
    have hl0 : left ≤ 0 := by rw [Int32.le_iff_toInt_le, z0]; apply Classical.byContradiction; intro z; have := hq (by omega); omega
    have hok : cF μ b s s μ := ⟨hA, hK, hW, (q_Fr.rf μ).wk rfl, Nat.le_refl _, by omega, by omega⟩
    unfold F_X11_fill_L27
    rw [wp_ite]
    by_cases h : (120 : Int32) ≤ q_i3 n
    · rw [if_pos h, wp_rt]; exact ⟨rfl, hok⟩
    · rw [if_neg h, wp_ite, if_pos hl0, wp_rt]; exact ⟨rfl, hok⟩
  | succ q ih =>
    intro s μ B left n f hK hW hA hI hB hm h50 h0 hq hn hn1 hqf hf
    obtain ⟨f, rfl⟩ : ∃ g, f = g + 1 := ⟨f - 1, by omega⟩
    have hok : cF μ b s s μ := ⟨hA, hK, hW, (q_Fr.rf μ).wk rfl, Nat.le_refl _, by omega, by omega⟩
    obtain ⟨hM, hL, hO, hT, hD, hR, hN, hU, hP⟩ := id hA
    have hin : Inc (sO s).1 := hO.2.2.1
    unfold F_X11_fill_L27 fillS
    have hle : (120 : Int32) ≤ q_i3 n ↔ 120 ≤ n := i3_le (a := 120) (by omega) (by omega)
    rw [wp_ite]
    by_cases hl0 : left ≤ 0
    · rw [if_pos hl0, wp_ite, if_pos hl0, wp_rt]
      by_cases h : (120 : Int32) ≤ q_i3 n
      · rw [if_pos h]; exact ⟨rfl, hok⟩
      · rw [if_neg h]; exact ⟨rfl, hok⟩
    rw [if_neg hl0]
    rw [Int32.le_iff_toInt_le, z0] at hl0
    have hlen := co_len hO hj hop
    have k := hK.lo (sdO_lo hj (opp buy))
    cases hs : q_side (sO s).1 (q_i3 j) (opp buy) with
    | nil =>
      rw [hs] at hlen
      by_cases h : (120 : Int32) ≤ q_i3 n
      · rw [if_pos h, wp_rt]; exact ⟨rfl, hok⟩
      · rw [if_neg h, wp_ite, if_neg (by rw [Int32.le_iff_toInt_le, z0]; omega), wp_bn, wp_pRc]
        refine ⟨k, ?_⟩
        rw [wp_bn, wp_eq (ls_empty hW k), if_pos (by simpa using hlen), wp_rt]
        exact ⟨rfl, hok⟩
    | cons o l =>
      have hnb := hn (by omega)
      rw [hs, List.length_cons] at hnb
      rw [if_neg (fun z => by have := hle.mp z; omega), wp_ite, if_neg (by rw [Int32.le_iff_toInt_le, z0]; omega), wp_bn, wp_pRc]
      refine ⟨k, ?_⟩
      rw [hs, List.length_cons] at hlen
      have hne0 : ¬ (q_lst μ (b + sdO j (opp buy))).length = 0 := by omega
      rw [wp_bn, wp_eq (ls_empty hW k), if_neg hne0, wp_ite, if_neg (by decide), wp_bn, wp_pRc]
      refine ⟨k, ?_⟩
      have eget : F_Jx4a65c_get_915e3 (b + sdO j (opp buy)) 0 μ = some (some ((q_lst μ (b + sdO j (opp buy))).getD 0 0), μ) := ls_get (i := 0) hW k (by omega)
      rw [wp_bn, wp_eq eget, wp_bn, wp_cst]
      have hp0 : 0 < (q_side (sO s).1 (q_i3 j) (opp buy)).length := by rw [hs]; simp
      have eo : (q_side (sO s).1 (q_i3 j) (opp buy)).getD 0 q_o0 = o := by rw [hs]; rfl
      obtain ⟨a1, a2, a3⟩ := co_at hO hj hop hp0
      rw [eo] at a1 a3
      refine ⟨a2, ?_⟩
      have aP9 : mI μ (64 * 9 + 1) ((q_lst μ (b + sdO j (opp buy))).getD 0 0) = oP o := by rw [← a1]; rfl
      have aL9 : mI μ (64 * 9 + 3) ((q_lst μ (b + sdO j (opp buy))).getD 0 0) = oL o := by rw [← a1]; rfl
      have aM9 : mI μ (64 * 9 + 0) ((q_lst μ (b + sdO j (opp buy))).getD 0 0) = oM o := by rw [← a1]; rfl
      have hos : o ∈ (sO s).1 := (side_mem.mp (show o ∈ q_side (sO s).1 (q_i3 j) (opp buy) by rw [hs]; simp)).1
      have hol := hI.2.2.1.2.2 o hos
      have hnt := hI.2.2.2.1.1
      obtain ⟨am, ham, eam⟩ := inR_i3 hol.1
      have nam : q_nat (oM o) = am := by rw [eam]; exact i3_toNat (by have := hI.1.1; omega)
      have L95 : q_meets buy price o → q_wp (F_X11_fill_L95 (F_X11_fill_L27 f) b (q_i3 mem) buy (q_i3 j) price (some (b + sdO j (opp buy))) left (q_i3 n) (some ((q_lst μ (b + sdO j (opp buy))).getD 0 0)) 1) μ (fun r ν => r = (if q_meets buy price o ∧ (sT s).1 < 700 then fillS mem buy j price q (stepF s mem buy j o (q_minL (oL o) left)) (left - q_minL (oL o) left) else (left, s)).1 ∧ cF μ b s (if q_meets buy price o ∧ (sT s).1 < 700 then fillS mem buy j price q (stepF s mem buy j o (q_minL (oL o) left)) (left - q_minL (oL o) left) else (left, s)).2 ν) := by
        intro hme
        unfold F_X11_fill_L95 F_X11_fill_L143
        rw [wp_ite, if_neg (by decide), wp_bn, xgP11_4 hK, wp_bn, xpL_34 hK, wp_bn, wp_eq (ls_size hW (hK.k 34 14 (by decide))), hT.1, wp_ite]
        have hlt : q_i3 (sT s).1 < 700 ↔ (sT s).1 < 700 := i3_lt (b := 700) (by omega) (by omega)
        by_cases h7 : (sT s).1 < 700
        rotate_left
        · rw [if_neg (fun z => h7 (hlt.mp z)), wp_rt, if_neg (fun z => h7 z.2)]; exact ⟨rfl, hok⟩
        rw [if_pos (hlt.mpr h7), if_pos ⟨hme, h7⟩, wp_bn, wp_gI, aL9]
        refine ⟨a2, ?_⟩
        have hpb := minL_bd (x := oL o) (left := left) (by omega) (by omega)
        have es : (left - q_minL (oL o) left).toInt = left.toInt - (q_minL (oL o) left).toInt := by rw [Int32.toInt_sub, Int.bmod_eq_of_le] <;> omega
        have core : q_wp (F_X11_fill_L158 (F_X11_fill_L27 f) b (q_i3 mem) buy (q_i3 j) price (some (b + sdO j (opp buy))) left (q_i3 n) (some ((q_lst μ (b + sdO j (opp buy))).getD 0 0)) (q_minL (oL o) left) (q_i3 (bI mem buy o)) (q_i3 (sI' mem buy o))) μ (fun r ν => r = (fillS mem buy j price q (stepF s mem buy j o (q_minL (oL o) left)) (left - q_minL (oL o) left)).1 ∧ cF μ b s (fillS mem buy j price q (stepF s mem buy j o (q_minL (oL o) left)) (left - q_minL (oL o) left)).2 ν) := by
          refine c_fill1 hK hW hA hI hc (by omega) hbuy hm hj hs (by omega) h7 fun ν hcf => ?_
          obtain ⟨Ibs, _, _, vn⟩ := ib_step (buy := buy) hI (by omega) hin hO.2.2.2.1 hm hj hos (part := q_minL (oL o) left) (by omega) h7
          refine q_wp_mono (ih (stepF s mem buy j o (q_minL (oL o) left)) ν (B + (q_minL (oL o) left).toInt) (left - q_minL (oL o) left) (n + 1) f hcf.2.1 hcf.2.2.1 hcf.1 Ibs (by omega) (by rw [vn]; exact hm) (by omega) (by omega) (fun hpos => ?_) (fun hpos => ?_) (by omega) (by omega) (by have := hq (by omega); rw [hs, List.length_cons] at this; omega)) ?_
          · have := side_step (sd := opp buy) (j := j) hin hs (by omega) (by omega) rfl hpos
            have h2 := hq (by omega)
            show (q_side (stepO (sO s) o (q_minL (oL o) left)).1 (q_i3 j) (opp buy)).length < q
            omega
          · have := side_step (sd := opp buy) (j := j) hin hs (by omega) (by omega) rfl hpos
            rw [hs, List.length_cons] at this
            show n + 1 + (q_side (stepO (sO s) o (q_minL (oL o) left)).1 (q_i3 j) (opp buy)).length ≤ 120
            omega
          · rintro r ρ ⟨hr, hcf2⟩
            exact ⟨hr, hcf.tr hcf2⟩
        show q_wp (if buy = 0 then _ else _) μ _
        rw [wp_ite]
        rcases hbuy with rfl | rfl
        · rw [if_pos rfl, wp_bn, wp_gI, aM9]
          refine ⟨a2, ?_⟩
          rw [if_pos rfl]
          have e1 : bI mem 0 o = am := by unfold bI; rw [if_pos rfl, nam]
          have e2 : sI' mem 0 o = mem := by unfold sI'; rw [if_pos rfl]
          rw [e1, e2] at core
          rw [eam]; exact core
        · rw [if_neg (by decide), if_neg (by decide), wp_bn, wp_gI, aM9]
          refine ⟨a2, ?_⟩
          have e1 : bI mem 1 o = mem := by unfold bI; rw [if_neg (by decide)]
          have e2 : sI' mem 1 o = am := by unfold sI'; rw [if_neg (by decide), nam]
          rw [e1, e2] at core
          rw [eam]; exact core
      have L950 : ¬ q_meets buy price o → q_wp (F_X11_fill_L95 (F_X11_fill_L27 f) b (q_i3 mem) buy (q_i3 j) price (some (b + sdO j (opp buy))) left (q_i3 n) (some ((q_lst μ (b + sdO j (opp buy))).getD 0 0)) 0) μ (fun r ν => r = (if q_meets buy price o ∧ (sT s).1 < 700 then fillS mem buy j price q (stepF s mem buy j o (q_minL (oL o) left)) (left - q_minL (oL o) left) else (left, s)).1 ∧ cF μ b s (if q_meets buy price o ∧ (sT s).1 < 700 then fillS mem buy j price q (stepF s mem buy j o (q_minL (oL o) left)) (left - q_minL (oL o) left) else (left, s)).2 ν) := by
        intro hme
        unfold F_X11_fill_L95
        rw [wp_ite, if_pos rfl, wp_rt, if_neg (fun z => hme z.1)]; exact ⟨rfl, hok⟩
      rw [wp_ite]
      have hb0 := hbuy
      rcases hbuy with rfl | rfl
      · rw [if_pos (by rfl), wp_bn, wp_gI, aP9]
        refine ⟨a2, ?_⟩
        rw [wp_ite]
        by_cases e : oP o < price
        · rw [if_pos e]; exact L950 (by unfold q_meets; rw [if_pos rfl]; exact fun z => z e)
        · rw [if_neg e]; exact L95 (by unfold q_meets; rw [if_pos rfl]; exact e)
      · rw [if_neg (by decide), wp_bn, wp_gI, aP9]
        refine ⟨a2, ?_⟩
        rw [wp_ite]
        by_cases e : price < oP o
        · rw [if_pos e]; exact L950 (by unfold q_meets; rw [if_neg (by decide)]; exact fun z => z e)
        · rw [if_neg e]; exact L95 (by unfold q_meets; rw [if_neg (by decide)]; exact e)

abbrev btr (buy p q : Int32) : Prop := if buy = 0 then p < q else q < p
theorem c_isBetter {μ : Mem} {buy p q : Int32} : F_X2_isBetter buy p q μ = some (if btr buy p q then 1 else 0, μ) := by
  apply eq_wp
  unfold F_X2_isBetter btr
  rw [wp_ite]
  by_cases h : buy = 0
  · simp only [h, if_true]
    rw [wp_ite]
    by_cases e : q ≤ p
    · rw [if_pos e, wp_rz, if_neg (by rw [Int32.lt_iff_toInt_lt]; rw [Int32.le_iff_toInt_le] at e; omega)]; exact ⟨Or.inl rfl, rfl, rfl⟩
    · rw [if_neg e, wp_rz, if_pos (by rw [Int32.lt_iff_toInt_lt]; rw [Int32.le_iff_toInt_le] at e; omega)]; exact ⟨Or.inr rfl, rfl, rfl⟩
  · simp only [h, if_false]
    rw [wp_ite]
    by_cases e : p ≤ q
    · rw [if_pos e, wp_rz, if_neg (by rw [Int32.lt_iff_toInt_lt]; rw [Int32.le_iff_toInt_le] at e; omega)]; exact ⟨Or.inl rfl, rfl, rfl⟩
    · rw [if_neg e, wp_rz, if_pos (by rw [Int32.lt_iff_toInt_lt]; rw [Int32.le_iff_toInt_le] at e; omega)]; exact ⟨Or.inr rfl, rfl, rfl⟩
theorem c_rank {μ : Mem} {b j r : Nat} {v : q_VO} {buy p : Int32} {Q : Unit → Mem → Prop} (hK : K0 μ b) (hW : WF μ) (hO : q_CO μ b v) (hj : j < 6) (hb : buy = 0 ∨ buy = 1) (h120 : v.1.length ≤ 120) (kr : mK μ r = 10) (hp : mI μ 577 r = p)
    (hQ : ∀ k, k ≤ (q_side v.1 (q_i3 j) buy).length → (∀ a, a < k → ¬ btr buy p (oP ((q_side v.1 (q_i3 j) buy).getD a q_o0))) → (k < (q_side v.1 (q_i3 j) buy).length → btr buy p (oP ((q_side v.1 (q_i3 j) buy).getD k q_o0))) → q_wp (F_X2_queue_L47 (some r) (some (b + sdO j buy)) (q_i3 k)) μ Q) :
    ∀ (d k f : Nat), k + d = (q_side v.1 (q_i3 j) buy).length → d < f → (∀ a, a < k → ¬ btr buy p (oP ((q_side v.1 (q_i3 j) buy).getD a q_o0))) → q_wp (F_X2_queue_L9 f buy (some r) (some (b + sdO j buy)) (q_i3 k)) μ Q := by
  have hlen := co_len hO hj hb
  have hle := side_le v.1 (q_i3 j) buy
  have kl := hK.lo (sdO_lo hj buy)
  intro d
  induction d with
  | zero =>
    intro k f hk hf ha
    obtain ⟨f, rfl⟩ : ∃ g, f = g + 1 := ⟨f - 1, by omega⟩
    unfold F_X2_queue_L9
    rw [wp_bn, wp_pRc]
    refine ⟨kl, ?_⟩
    rw [wp_bn, wp_eq (ls_size hW kl), hlen, wp_ite, if_pos ((i3_le (by omega) (by omega)).mpr (by omega))]
    exact hQ k (by omega) ha (fun z => by omega)
  | succ d ih =>
    intro k f hk hf ha
    obtain ⟨f, rfl⟩ : ∃ g, f = g + 1 := ⟨f - 1, by omega⟩
    unfold F_X2_queue_L9
    have hkl : k < (q_side v.1 (q_i3 j) buy).length := by omega
    obtain ⟨a1, a2, a3⟩ := co_at hO hj hb hkl
    rw [wp_bn, wp_pRc]
    refine ⟨kl, ?_⟩
    rw [wp_bn, wp_eq (ls_size hW kl), hlen, wp_ite, if_neg (fun z => by have := (i3_le (by omega) (by omega)).mp z; omega), wp_bn, wp_gI, show mI μ (64 * 9 + 1) r = p from hp]
    refine ⟨kr, ?_⟩
    rw [wp_bn, wp_pRc]
    refine ⟨kl, ?_⟩
    rw [wp_bn, wp_eq (ls_get hW kl (by omega)), wp_bn, wp_cst]
    refine ⟨a2, ?_⟩
    rw [wp_bn, wp_gI, show mI μ (64 * 9 + 1) ((q_lst μ (b + sdO j buy)).getD k 0) = oP ((q_side v.1 (q_i3 j) buy).getD k q_o0) by rw [← a1]; rfl]
    refine ⟨a2, ?_⟩
    rw [wp_bn, wp_eq c_isBetter, wp_ite]
    by_cases e : btr buy p (oP ((q_side v.1 (q_i3 j) buy).getD k q_o0))
    · rw [if_pos e, if_pos (by decide)]; exact hQ k (by omega) ha (fun _ => e)
    · rw [if_neg e, if_neg (by decide), i3_1]
      refine ih (k + 1) f (by omega) (by omega) fun a hak => ?_
      by_cases h : a = k
      · rw [h]; exact e
      · exact ha a (by omega)
theorem co_ins {μ ν : Mem} {b j k r c : Nat} {v : q_VO} {buy m p l : Int32} (hK : K0 μ b) (h : q_CO μ b v) (hj : j < 6) (hb : buy = 0 ∨ buy = 1) (hk : k ≤ (q_side v.1 (q_i3 j) buy).length)
    (h1 : ∀ a, a < k → ¬ btr buy p (oP ((q_side v.1 (q_i3 j) buy).getD a q_o0))) (h2 : k < (q_side v.1 (q_i3 j) buy).length → btr buy p (oP ((q_side v.1 (q_i3 j) buy).getD k q_o0)))
    (kr : mK μ r = 10) (f0 : mI μ 576 r = m) (f1 : mI μ 577 r = p) (f2 : mI μ 578 r = q_i3 v.2) (f3 : mI μ 579 r = l) (hcnt : v.2 + 1 ≤ 1000)
    (u : LU (b + sdO j buy) ((q_lst μ (b + sdO j buy)).take k ++ r :: (q_lst μ (b + sdO j buy)).drop k) c μ ν) : q_CO (sI ν 713 b (q_i3 (v.2 + 1))) b (v.1 ++ [(v.2, m, buy, q_i3 j, p, l)], v.2 + 1) := by
  obtain ⟨g1, g2, g3, g4, g5⟩ := id h
  have hin : Inc v.1 := g3
  have hsd := h.side hj hb
  have e0 : odAt μ buy (q_i3 j) r = (v.2, m, buy, q_i3 j, p, l) := by
    unfold odAt; rw [f0, f1, f2, f3, i3_toNat (by omega)]
  have eo : ∀ t s' a, odAt (sI ν 713 b (q_i3 (v.2 + 1))) s' t a = odAt μ s' t a := fun t s' a => by
    unfold odAt
    rw [mI_sI', if_neg (by omega), mI_sI', if_neg (by omega), mI_sI', if_neg (by omega), mI_sI', if_neg (by omega), u.2.1.i 576 rfl, u.2.1.i 577 rfl, u.2.1.i 578 rfl, u.2.1.i 579 rfl]
  have el : ∀ a, q_lst (sI ν 713 b (q_i3 (v.2 + 1))) a = q_lst ν a := fun a => by
    unfold q_lst ed; rw [mP_sI, aP_sI, mI_sI', if_neg (by omega)]
  refine ⟨by rw [mI_sI', if_pos ⟨rfl, rfl⟩], hcnt, ?_, ?_, fun i hi t ht => ?_⟩
  · show (v.1 ++ [_]).Pairwise _
    rw [List.pairwise_append]
    refine ⟨hin, by simp, fun x hx y hy => ?_⟩
    rw [List.mem_singleton.mp hy]; exact (g4 x hx).1
  · intro x hx
    rcases List.mem_append.mp hx with q | q
    · have := g4 x q; exact ⟨by show q_oN x < v.2 + 1; omega, this.2⟩
    · rw [List.mem_singleton.mp q]; exact ⟨Nat.lt_succ_self _, hb, i3_inR hj (by omega)⟩
  · obtain ⟨q1, q2, q3⟩ := g5 i hi t ht
    by_cases hjt : sdO i t = sdO j buy
    · obtain ⟨rfl, rfl⟩ := sdO_inj hi hj ht hb hjt
      have es : sd (sI ν 713 b (q_i3 (v.2 + 1))) b i t = (sd μ b i t).take k ++ (v.2, m, t, q_i3 i, p, l) :: (sd μ b i t).drop k := by
        have em : (q_lst μ (b + sdO i t)).map (odAt (sI ν 713 b (q_i3 (v.2 + 1))) t (q_i3 i)) = (q_lst μ (b + sdO i t)).map (odAt μ t (q_i3 i)) := by
          apply List.map_congr_left; intro a _; exact eo _ _ a
        unfold sd
        rw [el, u.2.2.1, List.map_append, List.map_cons, List.map_take, List.map_drop, eo, e0, em]
      rw [es, el, u.2.2.1]
      have hmem : ∀ x, x ∈ (sd μ b i t).take k ++ (v.2, m, t, q_i3 i, p, l) :: (sd μ b i t).drop k ↔ x ∈ sd μ b i t ∨ x = (v.2, m, t, q_i3 i, p, l) := by
        intro x
        rw [List.mem_append, List.mem_cons]
        constructor
        · rintro (z | z | z)
          · exact Or.inl (List.mem_of_mem_take z)
          · exact Or.inr z
          · exact Or.inl (List.mem_of_mem_drop z)
        · rintro (z | z)
          · rw [← List.take_append_drop k (sd μ b i t), List.mem_append] at z
            rcases z with z | z
            · exact Or.inl z
            · exact Or.inr (Or.inr z)
          · exact Or.inr (Or.inl z)
      refine ⟨fun a ha => ?_, ?_, fun x => ?_⟩
      · rcases List.mem_append.mp ha with z | z
        · obtain ⟨w1, w2⟩ := q1 a (List.mem_of_mem_take z)
          exact ⟨by rw [mK_sI]; exact u.2.1.k w1 (by omega), by rw [mI_sI', if_neg (by omega), u.2.1.i 578 rfl]; exact w2⟩
        · rcases List.mem_cons.mp z with z | z
          · rw [z]; exact ⟨by rw [mK_sI]; exact u.2.1.k kr (by omega), v.2, by rw [mI_sI', if_neg (by omega), u.2.1.i 578 rfl]; exact f2, by omega⟩
          · obtain ⟨w1, w2⟩ := q1 a (List.mem_of_mem_drop z)
            exact ⟨by rw [mK_sI]; exact u.2.1.k w1 (by omega), by rw [mI_sI', if_neg (by omega), u.2.1.i 578 rfl]; exact w2⟩
      · rw [hsd] at q2 ⊢
        have hnum : ∀ a (ha : a < (q_side v.1 (q_i3 i) t).length), q_oN (q_side v.1 (q_i3 i) t)[a] < v.2 := fun a ha => (g4 _ (side_mem.mp (List.getElem_mem ha)).1).1
        have q2' := q2
        rw [← List.take_append_drop k (q_side v.1 (q_i3 i) t), List.pairwise_append] at q2'
        rw [List.pairwise_append, List.pairwise_cons]
        have bf : ∀ y, y ∈ (q_side v.1 (q_i3 i) t).take k → bef t y (v.2, m, t, q_i3 i, p, l) = true := by
          intro y hy
          obtain ⟨a, ha, ea⟩ := List.mem_iff_getElem.mp hy
          rw [List.length_take] at ha
          rw [List.getElem_take] at ea
          have hb1 := h1 a (by omega)
          rw [getD_o (by omega), ea] at hb1
          have hn := hnum a (by omega)
          rw [ea] at hn
          rw [bef_iff]
          show (oP y = p ∧ q_oN y < v.2) ∨ (oP y ≠ p ∧ ((t = 0 ∧ (oP y).toInt < p.toInt) ∨ (t ≠ 0 ∧ p.toInt < (oP y).toInt)))
          by_cases ep : oP y = p
          · exact Or.inl ⟨ep, hn⟩
          · right; refine ⟨ep, ?_⟩
            have hne : (oP y).toInt ≠ p.toInt := fun z => ep (Int32.toInt_inj.mp z)
            unfold btr at hb1
            by_cases et : t = 0
            · rw [if_pos et, Int32.lt_iff_toInt_lt] at hb1; exact Or.inl ⟨et, by omega⟩
            · rw [if_neg et, Int32.lt_iff_toInt_lt] at hb1; exact Or.inr ⟨et, by omega⟩
        have bk : ∀ y, y ∈ (q_side v.1 (q_i3 i) t).drop k → bef t (v.2, m, t, q_i3 i, p, l) y = true := by
          intro y hy
          have hkl : k < (q_side v.1 (q_i3 i) t).length := by
            apply Classical.byContradiction; intro z
            rw [List.drop_eq_nil_of_le (by omega)] at hy; exact absurd hy (by simp)
          have hb2 := h2 hkl
          rw [getD_o hkl] at hb2
          have first : bef t (v.2, m, t, q_i3 i, p, l) (q_side v.1 (q_i3 i) t)[k] = true := by
            rw [bef_iff]
            show (p = oP (q_side v.1 (q_i3 i) t)[k] ∧ v.2 < q_oN (q_side v.1 (q_i3 i) t)[k]) ∨ (p ≠ oP (q_side v.1 (q_i3 i) t)[k] ∧ ((t = 0 ∧ p.toInt < (oP (q_side v.1 (q_i3 i) t)[k]).toInt) ∨ (t ≠ 0 ∧ (oP (q_side v.1 (q_i3 i) t)[k]).toInt < p.toInt)))
            right
            unfold btr at hb2
            by_cases et : t = 0
            · rw [if_pos et, Int32.lt_iff_toInt_lt] at hb2; exact ⟨fun z => by rw [← z] at hb2; omega, Or.inl ⟨et, hb2⟩⟩
            · rw [if_neg et, Int32.lt_iff_toInt_lt] at hb2; exact ⟨fun z => by rw [← z] at hb2; omega, Or.inr ⟨et, hb2⟩⟩
          rw [List.drop_eq_getElem_cons hkl] at hy
          rcases List.mem_cons.mp hy with z | z
          · rw [z]; exact first
          · obtain ⟨a, ha, ea⟩ := List.mem_iff_getElem.mp z
            rw [List.getElem_drop] at ea
            rw [List.length_drop] at ha
            refine bef_trans first ?_
            rw [← ea]
            exact (side_bef hin hkl (by omega)).mpr (by omega)
        refine ⟨q2'.1, ⟨bk, q2'.2.1⟩, fun y hy z hz => ?_⟩
        rcases List.mem_cons.mp hz with e | e
        · rw [e]; exact bf y hy
        · exact q2'.2.2 y hy z e
      · rw [hmem x, q3 x]
        show _ ↔ x ∈ v.1 ++ [_] ∧ _
        rw [List.mem_append, List.mem_singleton]
        constructor
        · rintro (z | z)
          · exact ⟨Or.inl z.1, z.2⟩
          · rw [z]; exact ⟨Or.inr rfl, rfl, rfl⟩
        · rintro ⟨z | z, z2⟩
          · exact Or.inl ⟨z, z2⟩
          · exact Or.inr z
    · have ell : q_lst ν (b + sdO i t) = q_lst μ (b + sdO i t) := u.2.2.2.1 _ (hK.lo (sdO_lo hi t)) (by omega)
      have es : sd (sI ν 713 b (q_i3 (v.2 + 1))) b i t = sd μ b i t := by
        unfold sd; rw [el, ell]
        apply List.map_congr_left
        intro a _; exact eo _ _ a
      rw [es, el, ell]
      refine ⟨fun a ha => ?_, q2, fun x => ?_⟩
      · obtain ⟨w1, w2⟩ := q1 a ha
        exact ⟨by rw [mK_sI]; exact u.2.1.k w1 (by omega), by rw [mI_sI', if_neg (by omega), u.2.1.i 578 rfl]; exact w2⟩
      · rw [q3 x]
        show _ ↔ x ∈ v.1 ++ [_] ∧ _
        rw [List.mem_append, List.mem_singleton]
        constructor
        · exact fun z => ⟨Or.inl z.1, z.2⟩
        · rintro ⟨z | z, z2⟩
          · exact ⟨z, z2⟩
          · exfalso
            rw [z] at z2
            have e1 : q_i3 j = q_i3 i := z2.1
            have e2 : buy = t := z2.2
            have := (i3_eq (by omega) (by omega)).mp e1
            exact hjt (by rw [this, e2])

def oWf (v : q_VO) : Prop := Inc v.1 ∧ ∀ x, x ∈ v.1 → q_oN x < v.2 ∧ (oB x = 0 ∨ oB x = 1) ∧ q_inR (oT x) 6
theorem fillS_ok {mem j c : Nat} {buy price : Int32} (hj : j < 6) : ∀ (q : Nat) (s : q_St) (B : Int) (left : Int32), Ib s B c → oWf (sO s) → B + left.toInt ≤ 900000000 → mem < vN (sM s) → left.toInt ≤ 50 → 0 ≤ left.toInt →
    (∃ B', B' + (fillS mem buy j price q s left).1.toInt ≤ B + left.toInt ∧ Ib (fillS mem buy j price q s left).2 B' c) ∧ oWf (sO (fillS mem buy j price q s left).2) ∧ (sO (fillS mem buy j price q s left).2).2 = (sO s).2 ∧ (sO (fillS mem buy j price q s left).2).1.length ≤ (sO s).1.length ∧ vN (sM (fillS mem buy j price q s left).2) = vN (sM s) ∧ 0 ≤ (fillS mem buy j price q s left).1.toInt ∧ (fillS mem buy j price q s left).1.toInt ≤ left.toInt := by
  intro q
  induction q with
  | zero => intro s B left hI ho hB hm h50 h0; exact ⟨⟨B, by show B + left.toInt ≤ _; omega, hI⟩, ho, rfl, Nat.le_refl _, rfl, h0, Int.le_refl _⟩
  | succ q ih =>
    intro s B left hI ho hB hm h50 h0
    have z0 : (0 : Int32).toInt = 0 := rfl
    have idle : ∀ r, r = (left, s) → (∃ B', B' + r.1.toInt ≤ B + left.toInt ∧ Ib r.2 B' c) ∧ oWf (sO r.2) ∧ (sO r.2).2 = (sO s).2 ∧ (sO r.2).1.length ≤ (sO s).1.length ∧ vN (sM r.2) = vN (sM s) ∧ 0 ≤ r.1.toInt ∧ r.1.toInt ≤ left.toInt := by
      rintro r rfl; exact ⟨⟨B, by show B + left.toInt ≤ _; omega, hI⟩, ho, rfl, Nat.le_refl _, rfl, h0, Int.le_refl _⟩
    unfold fillS
    by_cases hl0 : left ≤ 0
    · rw [if_pos hl0]; exact idle _ rfl
    rw [if_neg hl0]
    rw [Int32.le_iff_toInt_le, z0] at hl0
    cases hs : q_side (sO s).1 (q_i3 j) (opp buy) with
    | nil => exact idle _ rfl
    | cons o l =>
      have key : ∀ r, r = (if q_meets buy price o ∧ (sT s).1 < 700 then fillS mem buy j price q (stepF s mem buy j o (q_minL (oL o) left)) (left - q_minL (oL o) left) else (left, s)) → (∃ B', B' + r.1.toInt ≤ B + left.toInt ∧ Ib r.2 B' c) ∧ oWf (sO r.2) ∧ (sO r.2).2 = (sO s).2 ∧ (sO r.2).1.length ≤ (sO s).1.length ∧ vN (sM r.2) = vN (sM s) ∧ 0 ≤ r.1.toInt ∧ r.1.toInt ≤ left.toInt := by
        intro r er
        by_cases hme : q_meets buy price o ∧ (sT s).1 < 700
        · rw [if_pos hme] at er
          have hos : o ∈ (sO s).1 := (side_mem.mp (show o ∈ q_side (sO s).1 (q_i3 j) (opp buy) by rw [hs]; simp)).1
          have hol := hI.2.2.1.2.2 o hos
          have hpb := minL_bd (x := oL o) (left := left) (by omega) (by omega)
          have es : (left - q_minL (oL o) left).toInt = left.toInt - (q_minL (oL o) left).toInt := by rw [Int32.toInt_sub, Int.bmod_eq_of_le] <;> omega
          obtain ⟨Ibs, _, _, vn⟩ := ib_step (buy := buy) hI (by omega) ho.1 ho.2 hm hj hos (part := q_minL (oL o) left) (by omega) hme.2
          obtain ⟨_, o1, o2, o3⟩ := stepO_ok hI.2.2.1 ho.1 ho.2 hos (part := q_minL (oL o) left) (by omega)
          obtain ⟨⟨B', b1, b2⟩, r1, r2, r3, r4, r5, r6⟩ := ih (stepF s mem buy j o (q_minL (oL o) left)) (B + (q_minL (oL o) left).toInt) (left - q_minL (oL o) left) Ibs ⟨o1, o3⟩ (by omega) (by rw [vn]; exact hm) (by omega) (by omega)
          have e2 : (sO (stepF s mem buy j o (q_minL (oL o) left))).1.length ≤ (sO s).1.length := o2
          rw [er]
          exact ⟨⟨B', by omega, b2⟩, r1, r2, by omega, by rw [r4, vn], r5, by omega⟩
        · rw [if_neg hme] at er; exact idle _ er
      exact key _ rfl
def addO (s : q_St) (m buy month price left : Int32) : q_St := wO s ((sO s).1 ++ [((sO s).2, m, buy, month, price, left)], (sO s).2 + 1)
def fOrdIn (s : q_St) (m : Int32) (buy : Int32) (month price lots : Int32) (r : Int32 × q_St) : Int32 × q_St := if r.1 ≤ 0 ∨ 700 ≤ (sT r.2).1 then (lots - r.1, r.2) else (lots - r.1, addO r.2 m buy month price r.1)
def fOrder (s : q_St) (m buy month price lots : Int32) : Int32 × q_St := if rsn s m buy month price lots = 0 then fOrdIn s m buy month price lots (fillS (q_nat m) buy (q_nat month) price 121 s lots) else (-1 - rsn s m buy month price lots, s)
def cG (μ : Mem) (b : Nat) (s s' : q_St) (ν : Mem) : Prop := q_AC ν b s' ∧ K0 ν b ∧ WF ν ∧ q_Fr CS μ ν ∧ (sT s).1 ≤ (sT s').1 ∧ mX ν ≤ mX μ + 4 * ((sT s').1 - (sT s).1) + 3 ∧ mS ν ≤ mS μ + 3200 * ((sT s').1 - (sT s).1) + 300
theorem rsn_ok {s : q_St} {m buy month price lots : Int32} (h : rsn s m buy month price lots = 0) : okO s m month price lots ∧ (sO s).1.length < 120 ∧ (sT s).1 < 700 := by
  unfold rsn at h
  by_cases h1 : okO s m month price lots
  · rw [if_pos h1] at h
    refine ⟨h1, ?_⟩
    unfold rsnIn at h
    split at h
    · exact absurd h (by decide)
    · split at h
      · exact absurd h (by decide)
      · split at h
        · exact absurd h (by decide)
        · split at h
          · exact absurd h (by decide)
          · rename_i hn; omega
  · rw [if_neg h1] at h; exact absurd h (by decide)
theorem c_order {μ : Mem} {b c : Nat} {s : q_St} (hK : K0 μ b) (hW : WF μ) (hA : q_AC μ b s) (hI : Iv s c) (hc : c ≤ 600) (m buy month price lots : Int32) (hbuy : buy = 0 ∨ buy = 1) : q_wp (F_X11_order b m buy month price lots) μ (fun r ν => r = (fOrder s m buy month price lots).1 ∧ cG μ b s (fOrder s m buy month price lots).2 ν) := by
  have z0 : (0 : Int32).toInt = 0 := rfl
  unfold F_X11_order F_X11_order_L90
  obtain ⟨F, eF⟩ : ∃ F, F = fOrder s m buy month price lots := ⟨_, rfl⟩
  rw [← eF]
  unfold fOrder at eF
  rw [wp_bn, xpR11 hK, wp_bn]
  refine q_wp_mono (c_reason hK hW hA hI hc m buy month price lots hbuy) ?_
  rintro w μ1 ⟨rfl, md1⟩
  have K1 := md1.k0 hK
  obtain ⟨W1, l1⟩ := md1.wf hW rfl
  have A1 : q_AC μ1 b s := hA.md md1 hW rfl rfl
  have x1 : mX μ1 = mX μ := md1.2.2.2.2.1
  have s1' : mS μ1 = mS μ := md1.2.2.2.2.2.1
  rw [wp_ite]
  by_cases hr : rsn s m buy month price lots = 0
  rotate_left
  · rw [if_neg hr] at eF
    rw [if_neg hr, wp_rt, eF]
    exact ⟨rfl, A1, K1, W1, md1.1.wk rfl, Nat.le_refl _, by omega, by omega⟩
  rw [if_pos hr] at eF
  rw [if_pos hr]
  obtain ⟨⟨h1, h2, h3, h4⟩, h5, h6⟩ := rsn_ok hr
  have hn := hI.1.1
  obtain ⟨i, hi, rfl⟩ := inR_i3 h1
  obtain ⟨j, hj, rfl⟩ := inR_i3 h2
  have ni : q_nat (q_i3 i) = i := i3_toNat (by omega)
  have nj : q_nat (q_i3 j) = j := i3_toNat (by omega)
  rw [ni, nj] at eF
  have hO1 : q_CO μ1 b (sO s) := A1.2.2.1
  have ho : oWf (sO s) := ⟨hO1.2.2.1, hO1.2.2.2.1⟩
  have hsl := side_le (sO s).1 (q_i3 j) (opp buy)
  have fill : q_wp (F_X11_fill b (q_i3 i) buy (q_i3 j) price lots) μ1 (fun r ν => r = (fillS i buy j price 121 s lots).1 ∧ cF μ1 b s (fillS i buy j price 121 s lots).2 ν) := by
    unfold F_X11_fill F_X11_fill_L15
    rw [wp_bn, xgP11_2 K1, wp_bn, xmo K1 hj, wp_ite]
    have core := c_fillL (b := b) (price := price) (mem := i) hc hbuy hj 121 s μ1 (100 * c) lots 0 FU K1 W1 A1 hI.b (by omega) hi (by omega) (by omega) (fun _ => by omega) (fun _ => by omega) (by omega) (by show 121 ≤ 100000; omega) (by show 0 < 100000; omega)
    rcases hbuy with rfl | rfl
    · rw [if_neg (by decide), wp_bn, xpR2 K1 hj, wp_bn, wp_eq (c_side K1 hj (Or.inr rfl))]; exact core
    · rw [if_pos (by decide), wp_bn, xpR2 K1 hj, wp_bn, wp_eq (c_side K1 hj (Or.inl rfl))]; exact core
  rw [wp_bn, xpR11 K1, wp_bn]
  refine q_wp_mono fill ?_
  obtain ⟨⟨B', b1, b2⟩, q1, q2, q3, q_q4, q5, q6⟩ := fillS_ok (mem := i) (buy := buy) (price := price) hj 121 s (100 * c) lots hI.b ho (by omega) hi (by omega) (by omega)
  obtain ⟨R, eR⟩ : ∃ R, R = fillS i buy j price 121 s lots := ⟨_, rfl⟩
  rw [← eR] at eF b1 b2 q1 q2 q3 q_q4 q5 q6 ⊢
  rintro left μ2 ⟨rfl, hcf⟩
  obtain ⟨A2, K2, W2, F2, t2, x2, s2⟩ := hcf
  unfold fOrdIn at eF
  have done : F = (lots - R.1, R.2) → lots - R.1 = F.1 ∧ cG μ b s F.2 μ2 := by
    intro e; rw [e]
    exact ⟨rfl, A2, K2, W2, (md1.1.tr F2).wk rfl, t2, by show mX μ2 ≤ mX μ + 4 * ((sT R.2).1 - (sT s).1) + 3; omega, by show mS μ2 ≤ mS μ + 3200 * ((sT R.2).1 - (sT s).1) + 300; omega⟩
  rw [wp_ite]
  by_cases hl0 : R.1 ≤ 0
  · rw [if_pos (Or.inl hl0)] at eF; rw [if_pos hl0, wp_rt]; exact done eF
  rw [if_neg hl0, wp_bn, xgP11_4 K2, wp_bn, xpL_34 K2, wp_bn, wp_eq (ls_size W2 (K2.k 34 14 (by decide))), A2.2.2.2.1.1, wp_ite]
  have hnt2 := b2.2.2.2.1.1
  have hle7 : (700 : Int32) ≤ q_i3 (sT R.2).1 ↔ 700 ≤ (sT R.2).1 := i3_le (a := 700) (by omega) (by omega)
  by_cases h7 : 700 ≤ (sT R.2).1
  · rw [if_pos (Or.inr h7)] at eF; rw [if_pos (hle7.mpr h7), wp_rt]; exact done eF
  rw [if_neg (fun z => z.elim hl0 h7)] at eF
  rw [if_neg (fun z => h7 (hle7.mp z)), wp_bn, xgP11_2 K2, wp_bn, xmo K2 hj]
  obtain ⟨hM, hL, hO, hT, hD, hR, hN, hU, hP⟩ := id A2
  have hz := W2.z
  rw [wp_bn, wp_newO hz, wp_bn]
  obtain ⟨r, hrr⟩ : ∃ r, r = mX μ2 := ⟨_, rfl⟩
  rw [← hrr]
  have n1 := (Nw.rf W2).al 10 0 4 (by omega)
  have kr1 : mK (q_al (9 + 1) 0 4 μ2) r = 10 := by rw [mK_al, if_pos hrr]
  have K3 : K0 (q_al (9 + 1) 0 4 μ2) b := K2.fr (q_Fr.nw hz 10 0 4) rfl
  rw [xgI11 K3, show mI (q_al (9 + 1) 0 4 μ2) (64 * 11 + 9) b = q_i3 (sO R.2).2 from hO.1, wp_bn, wp_pRc]
  refine ⟨kr1, ?_⟩
  unfold F_X9_init
  simp only [wp_bn, wp_wI, wp_rt, Nat.reduceMul, Nat.reduceAdd]
  refine ⟨kr1, kr1, kr1, kr1, ?_⟩
  have nz : mK (q_al (9 + 1) 0 4 μ2) r ≠ 0 := by omega
  have n2 := (((n1.sI (f := 576) (a := r) (v := q_i3 i) nz (by omega)).sI (f := 579) (a := r) (v := R.1) nz (by omega)).sI (f := 577) (a := r) (v := price) nz (by omega)).sI (f := 578) (a := r) (v := q_i3 (sO R.2).2) nz (by omega)
  obtain ⟨μ4, e4⟩ : ∃ μ4, μ4 = sI (sI (sI (sI (q_al 10 0 4 μ2) 576 r (q_i3 i)) 579 r R.1) 577 r price) 578 r (q_i3 (sO R.2).2) := ⟨_, rfl⟩
  have f4 : q_Fr [576, 579, 577, 578] μ2 μ4 := by rw [e4]; exact (((((q_Fr.nw hz 10 0 4).tr (q_Fr.sI _ 576 r _)).tr (q_Fr.sI _ 579 r _)).tr (q_Fr.sI _ 577 r _)).tr (q_Fr.sI _ 578 r _)).wk rfl
  rw [← e4] at n2
  show q_wp (pRc 2 (some (b + (9 + 4 * j)))) (sI (sI (sI (sI (q_al 10 0 4 μ2) 576 r (q_i3 i)) 579 r R.1) 577 r price) 578 r (q_i3 (sO R.2).2)) _
  rw [← e4]
  have K4 : K0 μ4 b := K2.fr f4 rfl
  have kr4 : mK μ4 r = 10 := by rw [e4]; exact kr1
  have hC4 : Cs [576, 579, 577, 578] [] 1 4 b μ2 μ4 := n2.cs f4 (by rw [e4]; exact Nat.le_refl _) (by rw [e4]; exact Nat.le_refl _)
  have hne : ∀ a, mK μ2 a ≠ 0 → a ≠ r := fun a ha z => by have := hz.lt ha; omega
  have fld : ∀ a, mK μ2 a ≠ 0 → mI μ4 576 a = mI μ2 576 a ∧ mI μ4 577 a = mI μ2 577 a ∧ mI μ4 578 a = mI μ2 578 a ∧ mI μ4 579 a = mI μ2 579 a := by
    intro a ha
    have h1 := hne a ha
    rw [e4]; simp [mI_sI', h1, mI_al]
  have O4 : q_CO μ4 b (sO R.2) := by
    refine hO.fr' (fun a ha t => by rw [n2.2.1]) (fun a ha => f4.k rfl ha) (fun a ha t x hx => ?_) (by rw [f4.i 713 rfl])
    have hk : mK μ2 x ≠ 0 := by
      have := (W2.ls (K2.lo (sdO_lo ha t))).2.2.1 x hx; omega
    exact fld x hk
  have L4 : q_CL μ4 b (sG R.2) := by
    refine hL.fr' (fun a ha => by rw [n2.2.1]) (fun a ha => f4.k rfl ha) (fun a ha x hx => ?_) (fun a ha => by rw [f4.i 131 rfl])
    have := fld x (by rw [(hL a ha).2.1 x hx]; omega)
    exact ⟨this.1, this.2.2.2⟩
  unfold F_X2_queue
  rw [xpR2 K4 hj, wp_bn, xpR2 K4 hj, wp_bn, wp_eq (c_side K4 hj hbuy)]
  have hsl2 := side_le (sO R.2).1 (q_i3 j) buy
  refine c_rank (p := price) K4 n2.1 O4 hj hbuy (by omega) kr4 (by rw [e4]; simp [mI_sI']) ?_ ((q_side (sO R.2).1 (q_i3 j) buy).length) 0 FU (by omega) (by show _ < 100000; omega) (fun a ha => by omega)
  intro k hk ha1 ha2
  unfold F_X2_queue_L47
  have kl := K4.lo (sdO_lo hj buy)
  have hlen4 := co_len O4 hj hbuy
  rw [wp_bn, wp_pRc]
  refine ⟨kl, ?_⟩
  rw [wp_bn]
  refine q_wp_mono (ls_ins n2.1 kl (by omega) (n2.nin W2 (by omega)) (by omega) (by omega)) ?_
  intro _ μ5 u
  have hcnt : (sO R.2).2 ≤ c := b2.2.2.1.2.1
  have O6 := co_ins (m := q_i3 i) (p := price) (l := R.1) K4 O4 hj hbuy hk ha1 ha2 kr4 (by rw [e4]; simp [mI_sI']) (by rw [e4]; simp [mI_sI']) (by rw [e4]; simp [mI_sI']) (by rw [e4]; simp [mI_sI']) (by omega) u
  have C5 := u.cs K4
  have K5 := C5.k0 K4 rfl
  rw [wp_rt]
  rw [xgI11 K5, show mI μ5 (64 * 11 + 9) b = q_i3 (sO R.2).2 by rw [u.2.1.i _ rfl, f4.i _ rfl]; exact hO.1]
  refine ⟨kk11 K5, ?_⟩
  rw [i3_1]
  have md6 : Md [713] μ5 (sI μ5 713 b (q_i3 ((sO R.2).2 + 1))) := Md.sI (by rw [kk11 K5]; omega)
  have C6 := md6.cs (b := b) C5.1 rfl
  have hC := (hC4.tr C5).tr C6
  have nsd : sdO j buy = 11 + 4 * j ∨ sdO j buy = 10 + 4 * j := by unfold sdO; split; exact Or.inl rfl; exact Or.inr rfl
  have nl : ∀ o, o ∈ q_LO → o ≠ sdO j buy → q_lst (sI μ5 713 b (q_i3 ((sO R.2).2 + 1))) (b + o) = q_lst μ2 (b + o) := fun o ho hne => hC.2.2.1 o ho (by simpa using hne)
  have C56 := C5.tr C6
  have nl4 : ∀ o, o ∈ q_LO → o ≠ sdO j buy → q_lst (sI μ5 713 b (q_i3 ((sO R.2).2 + 1))) (b + o) = q_lst μ4 (b + o) := fun o ho hne => C56.2.2.1 o ho (by simpa using hne)
  rw [eF]
  refine ⟨rfl, ⟨hM.fr hC.2.1 (nl 33 (by decide) (by omega)) rfl, L4.fr C56.2.1 (fun a ha => nl4 _ (lgO_lo ha) (by omega)) rfl, O6, hT.fr hC.2.1 (nl 34 (by decide) (by omega)) rfl, hD.fr hC.2.1 (nl 37 (by decide) (by omega)) rfl, hR.fr hC.2.1 (nl 35 (by decide) (by omega)) rfl, hN.fr hC.2.1 (nl 36 (by decide) (by omega)) rfl, hU.fr hC.2.1 (nl 5 (by decide) (by omega)) rfl, hP.fr hC.2.1 rfl⟩, hC.k0 K2 rfl, hC.1, ((md1.1.tr F2).tr hC.2.1).wk rfl, t2, ?_, ?_⟩
  · have := hC.2.2.2.1
    show mX _ ≤ mX μ + 4 * ((sT R.2).1 - (sT s).1) + 3; omega
  · have := hC.2.2.2.2
    rw [hlen4] at this
    show mS _ ≤ mS μ + 3200 * ((sT R.2).1 - (sT s).1) + 300; omega

def ordR (K : Nat → Int32 → Int32 → Int32 → Int32 → Int32 → Int32 → Int32 → M Int32) (this : Nat) (x1 x2 x3 x4 x5 x7 x8 x9 x10 p : Int32) : M Int32 := bn (gP 12 20 (some this)) fun v41 => bn (lI 280 v41 p) fun v42 => bn (stI 280 v41 p (v42 - x10)) fun _ => bn (gP 12 20 (some this)) fun v43 => bn (lI 280 v43 p) fun v44 => if ¬ v44 = 0 then F_X12_order_L371 K this x1 x2 x3 x4 x5 (x7 - x10) x8 else bn (pRc 12 (some this)) fun b45 => bn (F_X12_dropOrder b45 x9) fun _ => F_X12_order_L371 K this x1 x2 x3 x4 x5 (x7 - x10) x8
theorem r_trow {μ : Mem} {b n : Nat} {v : q_VT} {m p l x y d : Int32} (hT : RT μ b v) (hn : n = v.1) : RT (sI (q_w7 μ 288 (b + 55) n m p l x y d 0) 791 (b + 38) (q_i3 (n + 1))) b (v.1 + 1, q_upd v.2 v.1 (tRow m p l x y d)) := by
  subst hn
  refine ⟨by rw [mI_sI', if_pos ⟨rfl, rfl⟩], fun t ht w hw => ?_⟩
  have ht : t < v.1 + 1 := ht
  show _ = q_upd v.2 v.1 (tRow m p l x y d) t w
  rw [aI_sI, w7_at hw]
  unfold q_upd
  by_cases e : t = v.1
  · rw [if_pos e, if_pos e]
    rcases (show w = 0 ∨ w = 1 ∨ w = 2 ∨ w = 3 ∨ w = 4 ∨ w = 5 ∨ w = 6 by omega) with rfl | rfl | rfl | rfl | rfl | rfl | rfl <;> rfl
  · rw [if_neg e, if_neg e]; exact hT.2 t (by omega) w hw
theorem r_fillA {μ : Mem} {b n k mem j : Nat} {d : Nat} {price lots left part m p : Int32} {K : Nat → Int32 → Int32 → Int32 → Int32 → Int32 → Int32 → Int32 → M Int32} {Q : Int32 → Mem → Prop} (hK : K0 μ b) (e23 : mI μ 791 (b + 38) = q_i3 n) (e24 : mI μ 792 (b + 38) = q_i3 d) (g0 : aI μ 280 (b + 54) (5 * k) = m) (g3 : aI μ 280 (b + 54) (5 * k + 3) = p) (hk : k < 120) (hn7 : n < 700)
    (core : ∀ W, W = sI (q_w7 μ 288 (b + 55) n (q_i3 j) p part m (q_i3 mem) (q_i3 d) 0) 791 (b + 38) (q_i3 (n + 1)) → q_wp (bn (F_X12_move (b + 38) (aI W 288 (b + 55) (7 * n + 3)) (aI W 288 (b + 55) (7 * n + 4)) (q_i3 j) p part) fun _ => ordR K (b + 38) (q_i3 mem) 0 (q_i3 j) price lots left 1 (q_i3 k) part (q_i3 (5 * k + 4))) W Q) : q_wp (F_X12_order_L164 K (b + 38) (q_i3 mem) 0 (q_i3 j) price lots left 1 (q_i3 k) part) μ Q := by
  have b0 : 5 * k < 600 := by omega
  have b3 : 5 * k + 3 < 600 := by omega
  have c0 : 7 * n < 4900 := by omega
  have c1 : 7 * n + 1 < 4900 := by omega
  have c2 : 7 * n + 2 < 4900 := by omega
  have c3 : 7 * n + 3 < 4900 := by omega
  have c4 : 7 * n + 4 < 4900 := by omega
  have c5 : 7 * n + 5 < 4900 := by omega
  have c6 : 7 * n + 6 < 4900 := by omega
  have n10 : ¬ (1 : Int32) = 0 := by decide
  unfold F_X12_order_L164 F_X12_order_L247 F_X12_order_L266
  simp (maxSteps := 2000000) (disch := first | assumption | omega | (simp only [K0_sI, K0_sL, K0_tI, K0_tL, K0_nE]; assumption)) only [wp_bn, xgI11, xgL11, xwI11, xpR11, xgI4, xgL4, xwI4, xpR4, xgI7, xgL7, xwI7, xpR7, xgI12, xgL12, xwI12, xpR12, xgP11_0, xgP11_1, xgP11_2, xgP11_3, xgP11_4, xgP11_5, xgP11_6, xgP11_7, xgP4_0, xl115, xs115, xgP4_9, xl120, xs120, xgP7_0, xgP7_1, xl136, xs136, xgP7_2, xl144, xs144, xgP12_0, xl160, xs160, xgP12_4, xl168, xs168, xgP12_5, xl176, xs176, xgP12_6, xl184, xs184, xgP12_7, xl192, xs192, xgP12_8, xl200, xs200, xgP12_11, xl209, xs209, xgP12_12, xl218, xs218, xgP12_13, xl226, xs226, xgP12_14, xl232, xs232, xgP12_15, xl241, xs241, xgP12_16, xl248, xs248, xgP12_17, xl256, xs256, xgP12_18, xl264, xs264, xgP12_19, xl274, xs274, xgP12_20, xl280, xs280, xgP12_22, xl288, xs288, xgP12_25, xl296, xs296, xgP12_26, xl305, xs305, xgP12_27, xl312, xs312, xgP12_28, xl321, xs321, xgP12_29, xl328, xs328, xgP12_31, xl336, xs336, xgP12_33, xl344, xs344, xgP12_46, xl352, xs352, xgP12_47, xl360, xs360, xgP2_0, xpL2_0, xgP2_1, xpL2_1, xgP2_2, xpL2_2, xgI2, xwZ2, xpR2, xmo, xpL_5, xpL_33, xpL_34, xpL_35, xpL_36, xpL_37, Nat.reduceMul, Nat.reduceAdd, mI_tI, e23, e24, i3m2, i3m4, i3m5, i3m6, i3m7, i3m12, i3m60, i3m72, i3m1600, i3r6, i3p1, i3p2, i3p3, i3p4, i3p5, i3p6, i3p7, i3p8, i3p9, i3p20, i3_add, i3_mul, i3_toNat, inA_i3, i3_lt, i3_le, i3_eq, g0, g3, b0, b3, c0, c1, c2, c3, c4, c5, c6, true_and, if_true]
  have := core _ rfl
  unfold ordR at this
  simp only [wp_bn] at this
  exact this
theorem r_fillB {μ : Mem} {b n k mem j : Nat} {d : Nat} {price lots left part m p : Int32} {K : Nat → Int32 → Int32 → Int32 → Int32 → Int32 → Int32 → Int32 → M Int32} {Q : Int32 → Mem → Prop} (hK : K0 μ b) (e23 : mI μ 791 (b + 38) = q_i3 n) (e24 : mI μ 792 (b + 38) = q_i3 d) (g0 : aI μ 280 (b + 54) (5 * k) = m) (g3 : aI μ 280 (b + 54) (5 * k + 3) = p) (hk : k < 120) (hn7 : n < 700)
    (core : ∀ W, W = sI (q_w7 μ 288 (b + 55) n (q_i3 j) p part (q_i3 mem) m (q_i3 d) 0) 791 (b + 38) (q_i3 (n + 1)) → q_wp (bn (F_X12_move (b + 38) (aI W 288 (b + 55) (7 * n + 3)) (aI W 288 (b + 55) (7 * n + 4)) (q_i3 j) p part) fun _ => ordR K (b + 38) (q_i3 mem) 1 (q_i3 j) price lots left 1 (q_i3 k) part (q_i3 (5 * k + 4))) W Q) : q_wp (F_X12_order_L164 K (b + 38) (q_i3 mem) 1 (q_i3 j) price lots left 1 (q_i3 k) part) μ Q := by
  have b0 : 5 * k < 600 := by omega
  have b3 : 5 * k + 3 < 600 := by omega
  have c0 : 7 * n < 4900 := by omega
  have c1 : 7 * n + 1 < 4900 := by omega
  have c2 : 7 * n + 2 < 4900 := by omega
  have c3 : 7 * n + 3 < 4900 := by omega
  have c4 : 7 * n + 4 < 4900 := by omega
  have c5 : 7 * n + 5 < 4900 := by omega
  have c6 : 7 * n + 6 < 4900 := by omega
  have n10 : ¬ (1 : Int32) = 0 := by decide
  unfold F_X12_order_L164 F_X12_order_L247 F_X12_order_L266
  simp (maxSteps := 2000000) (disch := first | assumption | omega | (simp only [K0_sI, K0_sL, K0_tI, K0_tL, K0_nE]; assumption)) only [wp_bn, xgI11, xgL11, xwI11, xpR11, xgI4, xgL4, xwI4, xpR4, xgI7, xgL7, xwI7, xpR7, xgI12, xgL12, xwI12, xpR12, xgP11_0, xgP11_1, xgP11_2, xgP11_3, xgP11_4, xgP11_5, xgP11_6, xgP11_7, xgP4_0, xl115, xs115, xgP4_9, xl120, xs120, xgP7_0, xgP7_1, xl136, xs136, xgP7_2, xl144, xs144, xgP12_0, xl160, xs160, xgP12_4, xl168, xs168, xgP12_5, xl176, xs176, xgP12_6, xl184, xs184, xgP12_7, xl192, xs192, xgP12_8, xl200, xs200, xgP12_11, xl209, xs209, xgP12_12, xl218, xs218, xgP12_13, xl226, xs226, xgP12_14, xl232, xs232, xgP12_15, xl241, xs241, xgP12_16, xl248, xs248, xgP12_17, xl256, xs256, xgP12_18, xl264, xs264, xgP12_19, xl274, xs274, xgP12_20, xl280, xs280, xgP12_22, xl288, xs288, xgP12_25, xl296, xs296, xgP12_26, xl305, xs305, xgP12_27, xl312, xs312, xgP12_28, xl321, xs321, xgP12_29, xl328, xs328, xgP12_31, xl336, xs336, xgP12_33, xl344, xs344, xgP12_46, xl352, xs352, xgP12_47, xl360, xs360, xgP2_0, xpL2_0, xgP2_1, xpL2_1, xgP2_2, xpL2_2, xgI2, xwZ2, xpR2, xmo, xpL_5, xpL_33, xpL_34, xpL_35, xpL_36, xpL_37, Nat.reduceMul, Nat.reduceAdd, mI_tI, e23, e24, i3m2, i3m4, i3m5, i3m6, i3m7, i3m12, i3m60, i3m72, i3m1600, i3r6, i3p1, i3p2, i3p3, i3p4, i3p5, i3p6, i3p7, i3p8, i3p9, i3p20, i3_add, i3_mul, i3_toNat, inA_i3, i3_lt, i3_le, i3_eq, g0, g3, b0, b3, c0, c1, c2, c3, c4, c5, c6, true_and, n10, if_false]
  have := core _ rfl
  unfold ordR at this
  simp only [wp_bn] at this
  exact this
theorem r_fill1 {μ : Mem} {b c mem j k : Nat} {s : q_St} {B : Int} {buy price lots left part : Int32} {o : Od} {K : Nat → Int32 → Int32 → Int32 → Int32 → Int32 → Int32 → Int32 → M Int32} {Q : Int32 → Mem → Prop} (hK : K0 μ b) (hA : q_AR μ b s) (hI : Ib s B c) (hc : c ≤ 600) (ho : oWf (sO s)) (hB : B ≤ 900000000) (hbuy : buy = 0 ∨ buy = 1) (hm : mem < vN (sM s)) (hj : j < 6) (hk : k < (sO s).1.length) (ek : (sO s).1.getD k q_o0 = o) (hp : 1 ≤ part.toInt ∧ part.toInt ≤ (oL o).toInt) (h7 : (sT s).1 < 700)
    (hQ : ∀ ν, q_AR ν b (stepF s mem buy j o part) → Md RS μ ν → mI ν 803 (b + 38) = mI μ 803 (b + 38) → q_wp (K (b + 38) (q_i3 mem) buy (q_i3 j) price lots (left - part) 1) ν Q) : q_wp (F_X12_order_L164 K (b + 38) (q_i3 mem) buy (q_i3 j) price lots left 1 (q_i3 k) part) μ Q := by
  obtain ⟨hM, hL, hO, hT, hD, hR, hN, hU, hP⟩ := id hA
  have hos : o ∈ (sO s).1 := by rw [← ek, getD_o hk]; exact List.getElem_mem _
  obtain ⟨Ibs, hbi, hsi, vn⟩ := ib_step (buy := buy) hI hB ho.1 ho.2 hm hj hos (part := part) hp h7
  have hol := hI.2.2.1.2.2 o hos
  have hlo := hI.2.2.1.1
  have hn := hI.1.1
  obtain ⟨n, en⟩ : ∃ n, n = (sT s).1 := ⟨_, rfl⟩
  have hn7 : n < 700 := by omega
  have e23 : mI μ 791 (b + 38) = q_i3 n := by rw [en]; exact hT.1
  have e24 : mI μ 792 (b + 38) = q_i3 (dT (sD s)) := hD.1
  obtain ⟨g0, g1, g2, g3, g4⟩ := hO.2 k hk
  rw [ek] at g0 g1 g2 g3 g4
  obtain ⟨am, ham, eam⟩ := inR_i3 hol.1
  have nam : q_nat (oM o) = am := by rw [eam]; exact i3_toNat (by omega)
  have b0 : 5 * k < 600 := by omega
  have b3 : 5 * k + 3 < 600 := by omega
  have b4 : 5 * k + 4 < 600 := by omega
  have c0 : 7 * n < 4900 := by omega
  have c1 : 7 * n + 1 < 4900 := by omega
  have c2 : 7 * n + 2 < 4900 := by omega
  have c3 : 7 * n + 3 < 4900 := by omega
  have c4 : 7 * n + 4 < 4900 := by omega
  have c5 : 7 * n + 5 < 4900 := by omega
  have c6 : 7 * n + 6 < 4900 := by omega
  have core : ∀ W, W = sI (q_w7 μ 288 (b + 55) n (q_i3 j) (oP o) part (q_i3 (bI mem buy o)) (q_i3 (sI' mem buy o)) (q_i3 (dT (sD s))) 0) 791 (b + 38) (q_i3 (n + 1)) → q_wp (bn (F_X12_move (b + 38) (aI W 288 (b + 55) (7 * n + 3)) (aI W 288 (b + 55) (7 * n + 4)) (q_i3 j) (oP o) part) fun _ => ordR K (b + 38) (q_i3 mem) buy (q_i3 j) price lots left 1 (q_i3 k) part (q_i3 (5 * k + 4))) W Q := by
    intro W eW
    have r3 : aI W 288 (b + 55) (7 * n + 3) = q_i3 (bI mem buy o) := by rw [eW, aI_sI, w7_at (by omega), if_pos rfl]; rfl
    have r4 : aI W 288 (b + 55) (7 * n + 4) = q_i3 (sI' mem buy o) := by rw [eW, aI_sI, w7_at (by omega), if_pos rfl]; rfl
    rw [r3, r4]
    have m1 : Md [2288] μ (q_w7 μ 288 (b + 55) n (q_i3 j) (oP o) part (q_i3 (bI mem buy o)) (q_i3 (sI' mem buy o)) (q_i3 (dT (sD s))) 0) := w7_md (k := 288) (kr hK 55 287 (by decide))
    have hmW : Md [2288, 791] μ W := by rw [eW]; exact (m1.tr (Md.sI (f := 791) (a := b + 38) (v := q_i3 (n + 1)) (kr (m1.k0 hK) 38 12 (by decide)))).wk rfl
    have TW : RT W b ((sT s).1 + 1, q_upd (sT s).2 (sT s).1 (tRow (q_i3 j) (oP o) part (q_i3 (bI mem buy o)) (q_i3 (sI' mem buy o)) (q_i3 (dT (sD s))))) := by
      rw [eW]; exact r_trow hT en
    clear eW m1
    have K1 := hmW.k0 hK
    rw [wp_bn]
    refine q_wp_mono (r_move (nt := 0) (c := 0) K1 (hM.fr hmW.1 rfl) (hL.fr hmW.1 rfl) (by omega) (by omega) hj (by omega) (fun i hi => by have := (hI.2.1 i hi).1; omega) (fun q hq => ((hI.2.1 j hj).2.1 q hq).2.1)) ?_
    rintro _ ρ ⟨M2, L2, hm2⟩
    have K2 := hm2.k0 K1
    have hmρ := hmW.tr hm2
    have O2 : RO ρ b (sO s) := hO.fr hmρ.1 rfl
    obtain ⟨f0, f1, f2, f3, f4⟩ := O2.2 k hk
    rw [ek] at f0 f1 f2 f3 f4
    unfold ordR
    rw [wp_bn, xgP12_20 K2, wp_bn, xl280 K2, i3_toNat (by omega), f4]
    refine ⟨inA_of (by omega) b4, ?_⟩
    rw [wp_bn, xs280 K2, i3_toNat (by omega)]
    refine ⟨inA_of (by omega) b4, ?_⟩
    have m3 : Md [2280] ρ (tI ρ 280 (b + 54) (5 * k + 4) (oL o - part)) := Md.tI (k := 280) (kr K2 54 279 (by decide))
    have O3 := ro_lots (l := oL o - part) O2 ho.1 hk
    rw [ek] at O3
    have a3 : aI (tI ρ 280 (b + 54) (5 * k + 4) (oL o - part)) 280 (b + 54) (5 * k + 4) = oL o - part := by rw [aI_tI', if_pos ⟨rfl, rfl, rfl⟩]
    obtain ⟨ν, eν⟩ : ∃ ν, ν = tI ρ 280 (b + 54) (5 * k + 4) (oL o - part) := ⟨_, rfl⟩
    rw [← eν] at m3 O3 a3 ⊢
    have K3 := m3.k0 K2
    rw [wp_bn, xgP12_20 K3, wp_bn, xl280 K3, i3_toNat (by omega), a3]
    refine ⟨inA_of (by omega) b4, ?_⟩
    have fin : ∀ ν', RO ν' b (stepO (sO s) o part) → Md [789, 2280] ν ν' → q_wp (F_X12_order_L371 K (b + 38) (q_i3 mem) buy (q_i3 j) price lots (left - part) 1) ν' Q := by
      intro ν' O4 m4
      have hC := (hmρ.tr m3).tr m4
      have h34 := m3.tr m4
      unfold F_X12_order_L371
      refine hQ ν' ⟨M2.fr h34.1 rfl, L2.fr h34.1 rfl, O4, TW.fr (hm2.tr h34).1 rfl, hD.fr hC.1 rfl, hR.fr hC.1 rfl, hN.fr hC.1 rfl, hU.fr hC.1 rfl, hP.fr hC.1 rfl⟩ (hC.wk rfl) (hC.1.i 803 rfl ▸ rfl)
    rw [wp_ite]
    by_cases hz0 : oL o - part = 0
    · rw [if_neg (fun z => z hz0), wp_bn, xpR12 K3, wp_bn]
      have hln : (ltS (sO s).1 (q_oN o) (oL o - part)).length = (sO s).1.length := by unfold ltS; rw [List.length_map]
      refine q_wp_mono (r_drop K3 O3 (by show (ltS (sO s).1 (q_oN o) (oL o - part)).length ≤ 120; omega) (by show k < (ltS (sO s).1 (q_oN o) (oL o - part)).length; omega)) ?_
      rintro _ ν' ⟨O4, m4⟩
      refine fin ν' ?_ m4
      unfold stepO; rw [if_pos hz0, ← ek, kOx_of ho.1 hk, ek]; exact O4
    · rw [if_pos hz0]
      refine fin ν ?_ ((Md.rf ν).wk rfl)
      unfold stepO; rw [if_neg hz0]; exact O3
  rcases hbuy with rfl | rfl
  · have e1 : q_i3 (bI mem 0 o) = oM o := by unfold bI; rw [if_pos rfl, nam, eam]
    have e2 : sI' mem 0 o = mem := by unfold sI'; rw [if_pos rfl]
    rw [e1, e2] at core
    exact r_fillA hK e23 e24 g0 g3 (by omega) hn7 core
  · have e1 : bI mem 1 o = mem := by unfold bI; rw [if_neg (by decide)]
    have e2 : q_i3 (sI' mem 1 o) = oM o := by unfold sI'; rw [if_neg (by decide), nam, eam]
    rw [e1, e2] at core
    exact r_fillB hK e23 e24 g0 g3 (by omega) hn7 core

theorem fillS_le {mem j q : Nat} {buy price left : Int32} {s : q_St} (h : left ≤ 0) : fillS mem buy j price (q + 1) s left = (left, s) := by
  unfold fillS; rw [if_pos h]
theorem fillS_nil {mem j q : Nat} {buy price left : Int32} {s : q_St} (h : q_side (sO s).1 (q_i3 j) (opp buy) = []) : fillS mem buy j price (q + 1) s left = (left, s) := by
  unfold fillS; rw [h]; split <;> rfl
theorem fillS_cons {mem j q : Nat} {buy price left : Int32} {s : q_St} {o : Od} {l : List Od} (h0 : ¬ left ≤ 0) (h : q_side (sO s).1 (q_i3 j) (opp buy) = o :: l) : fillS mem buy j price (q + 1) s left = if q_meets buy price o ∧ (sT s).1 < 700 then fillS mem buy j price q (stepF s mem buy j o (q_minL (oL o) left)) (left - q_minL (oL o) left) else (left, s) := by
  rw [fillS, if_neg h0, h]
theorem i3_ne1 {k : Nat} (h : k < 1000000) : ¬ q_i3 k = -1 := fun z => by
  have : (q_i3 k).toInt = (-1 : Int32).toInt := by rw [z]
  rw [i3_toInt (by omega)] at this
  have e : (-1 : Int32).toInt = -1 := rfl
  omega
theorem r_fillL {b c mem j : Nat} {buy price lots : Int32} {Q : Int32 → Mem → Prop} (hc : c ≤ 600) (hbuy : buy = 0 ∨ buy = 1) (hj : j < 6) : ∀ (q : Nat) (s : q_St) (μ : Mem) (B : Int) (left : Int32) (f : Nat), K0 μ b → q_AR μ b s → Ib s B c → oWf (sO s) → B + left.toInt ≤ 900000000 → mem < vN (sM s) → left.toInt ≤ 50 → 0 ≤ left.toInt → (0 < left.toInt → (q_side (sO s).1 (q_i3 j) (opp buy)).length < q) → q + 2 ≤ f →
    (∀ ν, q_AR ν b (fillS mem buy j price q s left).2 → Md RS μ ν → mI ν 803 (b + 38) = mI μ 803 (b + 38) → q_wp (F_X12_order_L374 (b + 38) (q_i3 mem) buy (q_i3 j) price lots (fillS mem buy j price q s left).1) ν Q) →
    q_wp (F_X12_order_L35 f (b + 38) (q_i3 mem) buy (q_i3 j) price lots left 1) μ Q := by
  intro q
  have z0 : (0 : Int32).toInt = 0 := rfl
  have hop : opp buy = 0 ∨ opp buy = 1 := by unfold opp; split; exact Or.inr rfl; exact Or.inl rfl
  induction q with
  | zero =>
    intro s μ B left f hK hA hI ho hB hm h50 h0 hq hf hQ
    obtain ⟨f, rfl⟩ : ∃ g, f = g + 1 := ⟨f - 1, by omega⟩
    have hl0 : left ≤ 0 := by rw [Int32.le_iff_toInt_le, z0]; apply Classical.byContradiction; intro z; have := hq (by omega); omega
    unfold F_X12_order_L35
    rw [wp_ite, if_neg (by decide), wp_ite, if_pos hl0]
    exact hQ μ hA ((Md.rf μ).wk rfl) rfl
  | succ q ih =>
    intro s μ B left f hK hA hI ho hB hm h50 h0 hq hf hQ
    obtain ⟨f, rfl⟩ : ∃ g, f = g + 2 := ⟨f - 2, by omega⟩
    obtain ⟨hM, hL, hO, hT, hD, hR, hN, hU, hP⟩ := id hA
    have hnt := hI.2.2.2.1.1
    have hlo := hI.2.2.1.1
    unfold F_X12_order_L35
    rw [wp_ite, if_neg (by decide), wp_ite]
    obtain ⟨R, eR⟩ : ∃ R, R = fillS mem buy j price (q + 1) s left := ⟨_, rfl⟩
    rw [← eR] at hQ
    have idle : R = (left, s) → q_wp (F_X12_order_L374 (b + 38) (q_i3 mem) buy (q_i3 j) price lots left) μ Q := by
      intro e; rw [e] at hQ; exact hQ μ hA ((Md.rf μ).wk rfl) rfl
    by_cases hl0 : left ≤ 0
    · rw [if_pos hl0]; exact idle (by rw [eR, fillS_le hl0])
    rw [if_neg hl0]
    have hl0' := hl0
    rw [Int32.le_iff_toInt_le, z0] at hl0
    rw [wp_bn, xgI12 hK, show mI μ (64 * 12 + 23) (b + 38) = q_i3 (sT s).1 from hT.1, wp_ite]
    have hle7 : (700 : Int32) ≤ q_i3 (sT s).1 ↔ 700 ≤ (sT s).1 := i3_le (a := 700) (by omega) (by omega)
    by_cases h7 : 700 ≤ (sT s).1
    · rw [if_pos (hle7.mpr h7)]
      refine idle ?_
      cases hs : q_side (sO s).1 (q_i3 j) (opp buy) with
      | nil => rw [eR, fillS_nil hs]
      | cons o l => rw [eR, fillS_cons hl0' hs, if_neg (by omega)]
    rw [if_neg (fun z => h7 (hle7.mp z))]
    have main : q_wp (F_X12_order_L65 (F_X12_order_L35 (f + 1)) (b + 38) (q_i3 mem) buy (q_i3 j) price lots left (opp buy) (some (b + 38))) μ Q := by
      have stop : ∀ x9, q_wp (F_X12_order_L374 (b + 38) (q_i3 mem) buy (q_i3 j) price lots left) μ Q → q_wp (F_X12_order_L121 (F_X12_order_L35 (f + 1)) (b + 38) (q_i3 mem) buy (q_i3 j) price lots left x9) μ Q := by
        intro x9 h
        unfold F_X12_order_L121 F_X12_order_L122
        rw [wp_ite, if_neg (fun z => z rfl)]
        unfold F_X12_order_L35
        rw [wp_ite, if_pos rfl]; exact h
      unfold F_X12_order_L65
      rw [wp_bn, xpR12 hK, wp_bn]
      refine r_ranked (i := 0) hK hO ho.1 hlo hop (by omega) (fun hlen => ?_) (fun hlen k hk ek => ?_)
      · rw [wp_ite, if_pos rfl]
        refine stop _ (idle ?_)
        rw [eR, fillS_nil (List.length_eq_zero_iff.mp (by omega))]
      · cases hs : q_side (sO s).1 (q_i3 j) (opp buy) with
        | nil => rw [hs] at hlen; simp at hlen
        | cons o l =>
          rw [hs] at ek
          rw [fillS_cons hl0' hs] at eR
          have ek : (sO s).1.getD k q_o0 = o := ek
          have hos : o ∈ (sO s).1 := by rw [← ek, getD_o hk]; exact List.getElem_mem _
          have hol := hI.2.2.1.2.2 o hos
          obtain ⟨g0, g1, g2, g3, g4⟩ := hO.2 k hk
          rw [ek] at g0 g1 g2 g3 g4
          rw [wp_ite, if_neg (i3_ne1 (by omega))]
          have go : q_meets buy price o → q_wp (F_X12_order_L117 (F_X12_order_L35 (f + 1)) (b + 38) (q_i3 mem) buy (q_i3 j) price lots left (q_i3 k)) μ Q := by
            intro hme
            unfold F_X12_order_L117 F_X12_order_L122
            rw [wp_ite, if_pos (by decide), wp_bn, xgP12_20 hK, i3m5, i3p4, wp_bn, xl280 hK, i3_toNat (by omega), g4]
            refine ⟨inA_of (by omega) (by omega), ?_⟩
            rw [if_pos ⟨hme, by omega⟩] at eR
            rw [eR] at hQ
            have hpb := minL_bd (x := oL o) (left := left) (by omega) (by omega)
            have es : (left - q_minL (oL o) left).toInt = left.toInt - (q_minL (oL o) left).toInt := by rw [Int32.toInt_sub, Int.bmod_eq_of_le] <;> omega
            have step : q_wp (F_X12_order_L164 (F_X12_order_L35 (f + 1)) (b + 38) (q_i3 mem) buy (q_i3 j) price lots left 1 (q_i3 k) (q_minL (oL o) left)) μ Q := by
              refine r_fill1 hK hA hI hc ho (by omega) hbuy hm hj hk ek (by omega) (by omega) fun ν A1 m1 z1 => ?_
              obtain ⟨Ibs, _, _, vn⟩ := ib_step (buy := buy) hI (by omega) ho.1 ho.2 hm hj hos (part := q_minL (oL o) left) (by omega) (by omega)
              obtain ⟨_, o1, o2, o3⟩ := stepO_ok hI.2.2.1 ho.1 ho.2 hos (part := q_minL (oL o) left) (by omega)
              refine ih (stepF s mem buy j o (q_minL (oL o) left)) ν (B + (q_minL (oL o) left).toInt) (left - q_minL (oL o) left) (f + 1) (m1.k0 hK) A1 Ibs ⟨o1, o3⟩ (by omega) (by rw [vn]; exact hm) (by omega) (by omega) (fun hpos => ?_) (by omega) (fun ρ A2 m2 z2 => ?_)
              · have := side_step (sd := opp buy) (j := j) ho.1 hs (by omega) (by omega) rfl hpos
                have h2 := hq (by omega)
                show (q_side (stepO (sO s) o (q_minL (oL o) left)).1 (q_i3 j) (opp buy)).length < q
                omega
              · exact hQ ρ A2 ((m1.tr m2).wk rfl) (by rw [z2, z1])
            rw [wp_ite]
            by_cases hlt : left ≤ oL o
            · rw [if_pos hlt]
              have e : q_minL (oL o) left = left := by
                unfold q_minL; rw [Int32.le_iff_toInt_le] at hlt
                rw [if_neg (by rw [Int32.lt_iff_toInt_lt]; omega)]
              rw [e] at step; exact step
            · rw [if_neg hlt, wp_bn, xgP12_20 hK, wp_bn, xl280 hK, i3_toNat (by omega), g4]
              refine ⟨inA_of (by omega) (by omega), ?_⟩
              have e : q_minL (oL o) left = oL o := by
                unfold q_minL; rw [Int32.le_iff_toInt_le] at hlt
                rw [if_pos (by rw [Int32.lt_iff_toInt_lt]; omega)]
              rw [e] at step; exact step
          have nogo : ¬ q_meets buy price o → q_wp (F_X12_order_L121 (F_X12_order_L35 (f + 1)) (b + 38) (q_i3 mem) buy (q_i3 j) price lots left (q_i3 k)) μ Q := fun hme => stop _ (idle (by rw [eR, if_neg fun z => hme z.1]))
          rw [wp_ite]
          rcases hbuy with rfl | rfl
          · rw [if_pos rfl, wp_bn, xgP12_20 hK, i3m5, i3p3, wp_bn, xl280 hK, i3_toNat (by omega), g3]
            refine ⟨inA_of (by omega) (by omega), ?_⟩
            rw [wp_ite]
            by_cases e : oP o < price
            · rw [if_pos e]; exact nogo (by unfold q_meets; rw [if_pos rfl]; exact fun z => z e)
            · rw [if_neg e]; exact go (by unfold q_meets; rw [if_pos rfl]; exact e)
          · rw [if_neg (by decide), wp_bn, xgP12_20 hK, i3m5, i3p3, wp_bn, xl280 hK, i3_toNat (by omega), g3]
            refine ⟨inA_of (by omega) (by omega), ?_⟩
            rw [wp_ite]
            by_cases e : price < oP o
            · rw [if_pos e]; exact nogo (by unfold q_meets; rw [if_neg (by decide)]; exact fun z => z e)
            · rw [if_neg e]; exact go (by unfold q_meets; rw [if_neg (by decide)]; exact e)
    rw [wp_ite]
    rcases hbuy with rfl | rfl
    · rw [if_neg (fun z => z rfl)]; exact main
    · rw [if_pos (by decide)]; exact main

def w5 (μ : Mem) (k a n : Nat) (x0 x1 x2 x3 x4 : Int32) : Mem := tI (tI (tI (tI (tI μ k a (5 * n) x0) k a (5 * n + 1) x1) k a (5 * n + 2) x2) k a (5 * n + 3) x3) k a (5 * n + 4) x4
theorem w5_at {μ : Mem} {k a n t w : Nat} {x0 x1 x2 x3 x4 : Int32} (hw : w < 5) : aI (w5 μ k a n x0 x1 x2 x3 x4) k a (5 * t + w) = if t = n then [x0, x1, x2, x3, x4].getD w 0 else aI μ k a (5 * t + w) := by
  unfold w5
  simp only [aI_tI', true_and]
  by_cases e : t = n
  · subst e
    rw [if_pos rfl]
    rcases (show w = 0 ∨ w = 1 ∨ w = 2 ∨ w = 3 ∨ w = 4 by omega) with rfl | rfl | rfl | rfl | rfl <;> simp
  · rw [if_neg e, if_neg (by omega), if_neg (by omega), if_neg (by omega), if_neg (by omega), if_neg (by omega)]
theorem w5_md {μ : Mem} {k a n : Nat} {x0 x1 x2 x3 x4 : Int32} (h : mK μ a ≠ 0) : Md [2000 + k] μ (w5 μ k a n x0 x1 x2 x3 x4) := by
  unfold w5
  exact md_ti (md_ti (md_ti (md_ti (Md.tI h) h) h) h) h
theorem ro_add {μ : Mem} {b n : Nat} {v : q_VO} {o : Od} (h : RO μ b v) (hn : n = v.1.length) : RO (sI (w5 μ 280 (b + 54) n (oM o) (oB o) (oT o) (oP o) (oL o)) 789 (b + 38) (q_i3 (n + 1))) b (v.1 ++ [o], v.2 + 1) := by
  subst hn
  have hl : (v.1 ++ [o]).length = v.1.length + 1 := by rw [List.length_append, List.length_singleton]
  refine ⟨by rw [mI_sI', if_pos ⟨rfl, rfl⟩]; show _ = q_i3 (v.1 ++ [o]).length; rw [hl], fun k hk => ?_⟩
  have hk : k < (v.1 ++ [o]).length := hk
  rw [hl] at hk
  show _ = oM ((v.1 ++ [o]).getD k q_o0) ∧ _ = oB ((v.1 ++ [o]).getD k q_o0) ∧ _ = oT ((v.1 ++ [o]).getD k q_o0) ∧ _ = oP ((v.1 ++ [o]).getD k q_o0) ∧ _ = oL ((v.1 ++ [o]).getD k q_o0)
  have e0 := w5_at (μ := μ) (k := 280) (a := b + 54) (n := v.1.length) (t := k) (w := 0) (x0 := oM o) (x1 := oB o) (x2 := oT o) (x3 := oP o) (x4 := oL o) (by omega)
  simp only [Nat.add_zero] at e0
  simp only [aI_sI]
  rw [e0, w5_at (by omega), w5_at (by omega), w5_at (by omega), w5_at (by omega)]
  by_cases e : k = v.1.length
  · subst e
    have : (v.1 ++ [o]).getD v.1.length q_o0 = o := by simp [List.getD_eq_getElem?_getD]
    rw [this]
    simp
  · have hk' : k < v.1.length := by omega
    have : (v.1 ++ [o]).getD k q_o0 = v.1.getD k q_o0 := by simp [List.getD_eq_getElem?_getD, List.getElem?_append_left hk']
    rw [this, if_neg e, if_neg e, if_neg e, if_neg e, if_neg e]
    exact h.2 k hk'
theorem r_ordEnd {μ : Mem} {b n : Nat} {m buy t price lots left : Int32} {Q : Int32 → Mem → Prop} (hK : K0 μ b) (e21 : mI μ 789 (b + 38) = q_i3 n) (hn : n < 120) (hbuy : buy = 0 ∨ buy = 1) (core : Q (lots - left) (sI (w5 μ 280 (b + 54) n m buy t price left) 789 (b + 38) (q_i3 (n + 1)))) : q_wp (bn (gI 12 21 (some (b + 38))) fun v5 => bn (gP 12 20 (some (b + 38))) fun v6 => bn (stI 280 v6 ((5 : Int32) * v5) m) fun _ => bn (gP 12 20 (some (b + 38))) fun v7 => if buy = 0 then F_X12_order_L422 (b + 38) t price lots left ((5 : Int32) * v5) (0 : Int32) (((5 : Int32) * v5) + (1 : Int32)) v7 else F_X12_order_L422 (b + 38) t price lots left ((5 : Int32) * v5) (1 : Int32) (((5 : Int32) * v5) + (1 : Int32)) v7) μ Q := by
  have c0 : 5 * n < 600 := by omega
  have c1 : 5 * n + 1 < 600 := by omega
  have c2 : 5 * n + 2 < 600 := by omega
  have c3 : 5 * n + 3 < 600 := by omega
  have c4 : 5 * n + 4 < 600 := by omega
  have n10 : ¬ (1 : Int32) = 0 := by decide
  unfold F_X12_order_L422 F_X12_order_L465
  rcases hbuy with rfl | rfl
  · simp (maxSteps := 2000000) (disch := first | assumption | omega | (simp only [K0_sI, K0_sL, K0_tI, K0_tL, K0_nE]; assumption)) only [wp_bn, wp_rt, wp_ite, wp_rz, xgI11, xgL11, xwI11, xpR11, xgI4, xgL4, xwI4, xpR4, xgI7, xgL7, xwI7, xpR7, xgI12, xgL12, xwI12, xpR12, xgP11_0, xgP11_1, xgP11_2, xgP11_3, xgP11_4, xgP11_5, xgP11_6, xgP11_7, xgP4_0, xl115, xs115, xgP4_9, xl120, xs120, xgP7_0, xgP7_1, xl136, xs136, xgP7_2, xl144, xs144, xgP12_0, xl160, xs160, xgP12_4, xl168, xs168, xgP12_5, xl176, xs176, xgP12_6, xl184, xs184, xgP12_7, xl192, xs192, xgP12_8, xl200, xs200, xgP12_11, xl209, xs209, xgP12_12, xl218, xs218, xgP12_13, xl226, xs226, xgP12_14, xl232, xs232, xgP12_15, xl241, xs241, xgP12_16, xl248, xs248, xgP12_17, xl256, xs256, xgP12_18, xl264, xs264, xgP12_19, xl274, xs274, xgP12_20, xl280, xs280, xgP12_22, xl288, xs288, xgP12_25, xl296, xs296, xgP12_26, xl305, xs305, xgP12_27, xl312, xs312, xgP12_28, xl321, xs321, xgP12_29, xl328, xs328, xgP12_31, xl336, xs336, xgP12_33, xl344, xs344, xgP12_46, xl352, xs352, xgP12_47, xl360, xs360, xgP2_0, xpL2_0, xgP2_1, xpL2_1, xgP2_2, xpL2_2, xgI2, xwZ2, xpR2, xmo, xpL_5, xpL_33, xpL_34, xpL_35, xpL_36, xpL_37, Nat.reduceMul, Nat.reduceAdd, mI_tI, e21, i3m2, i3m4, i3m5, i3m6, i3m7, i3m12, i3m60, i3m72, i3m1600, i3r6, i3p1, i3p2, i3p3, i3p4, i3p5, i3p6, i3p7, i3p8, i3p9, i3p20, i3_add, i3_mul, i3_toNat, inA_i3, i3_lt, i3_le, i3_eq, c0, c1, c2, c3, c4, true_and, if_true]
    exact core
  · simp (maxSteps := 2000000) (disch := first | assumption | omega | (simp only [K0_sI, K0_sL, K0_tI, K0_tL, K0_nE]; assumption)) only [wp_bn, wp_rt, wp_ite, wp_rz, xgI11, xgL11, xwI11, xpR11, xgI4, xgL4, xwI4, xpR4, xgI7, xgL7, xwI7, xpR7, xgI12, xgL12, xwI12, xpR12, xgP11_0, xgP11_1, xgP11_2, xgP11_3, xgP11_4, xgP11_5, xgP11_6, xgP11_7, xgP4_0, xl115, xs115, xgP4_9, xl120, xs120, xgP7_0, xgP7_1, xl136, xs136, xgP7_2, xl144, xs144, xgP12_0, xl160, xs160, xgP12_4, xl168, xs168, xgP12_5, xl176, xs176, xgP12_6, xl184, xs184, xgP12_7, xl192, xs192, xgP12_8, xl200, xs200, xgP12_11, xl209, xs209, xgP12_12, xl218, xs218, xgP12_13, xl226, xs226, xgP12_14, xl232, xs232, xgP12_15, xl241, xs241, xgP12_16, xl248, xs248, xgP12_17, xl256, xs256, xgP12_18, xl264, xs264, xgP12_19, xl274, xs274, xgP12_20, xl280, xs280, xgP12_22, xl288, xs288, xgP12_25, xl296, xs296, xgP12_26, xl305, xs305, xgP12_27, xl312, xs312, xgP12_28, xl321, xs321, xgP12_29, xl328, xs328, xgP12_31, xl336, xs336, xgP12_33, xl344, xs344, xgP12_46, xl352, xs352, xgP12_47, xl360, xs360, xgP2_0, xpL2_0, xgP2_1, xpL2_1, xgP2_2, xpL2_2, xgI2, xwZ2, xpR2, xmo, xpL_5, xpL_33, xpL_34, xpL_35, xpL_36, xpL_37, Nat.reduceMul, Nat.reduceAdd, mI_tI, e21, i3m2, i3m4, i3m5, i3m6, i3m7, i3m12, i3m60, i3m72, i3m1600, i3r6, i3p1, i3p2, i3p3, i3p4, i3p5, i3p6, i3p7, i3p8, i3p9, i3p20, i3_add, i3_mul, i3_toNat, inA_i3, i3_lt, i3_le, i3_eq, c0, c1, c2, c3, c4, true_and, n10, if_false]
    exact core
theorem rsn_nn (s : q_St) (m buy month price lots : Int32) : rsn s m buy month price lots ≤ 0 ↔ rsn s m buy month price lots = 0 := by
  constructor
  · intro h
    unfold rsn at h ⊢
    by_cases h1 : okO s m month price lots
    · rw [if_pos h1] at h ⊢
      unfold rsnIn at h ⊢
      split
      · rename_i h2; rw [if_pos h2] at h; exact absurd h (by decide)
      · rename_i h2; rw [if_neg h2] at h
        split
        · rename_i h3; rw [if_pos h3] at h; exact absurd h (by decide)
        · rename_i h3; rw [if_neg h3] at h
          split
          · rename_i h4; rw [if_pos h4] at h; exact absurd h (by decide)
          · rename_i h4; rw [if_neg h4] at h
            split
            · rename_i h5; rw [if_pos h5] at h; exact absurd h (by decide)
            · rfl
    · rw [if_neg h1] at h; exact absurd h (by decide)
  · intro h; rw [h]; decide
theorem r_order {μ : Mem} {b c : Nat} {s : q_St} (hK : K0 μ b) (hA : q_AR μ b s) (hI : Iv s c) (ho : oWf (sO s)) (hc : c ≤ 600) (m buy month price lots : Int32) (hbuy : buy = 0 ∨ buy = 1) : q_wp (F_X12_order (b + 38) m buy month price lots) μ (fun r ν => r = (fOrder s m buy month price lots).1 ∧ rOK μ b (fOrder s m buy month price lots).2 0 ν) := by
  have z0 : (0 : Int32).toInt = 0 := rfl
  unfold F_X12_order
  refine r_start hK hA fun μ hK hA hz => ?_
  obtain ⟨F, eF⟩ : ∃ F, F = fOrder s m buy month price lots := ⟨_, rfl⟩
  rw [← eF]
  unfold fOrder at eF
  rw [wp_bn, xpR12 hK, wp_bn]
  refine q_wp_mono (r_reason hK hA hI hc m buy month price lots hbuy) ?_
  rintro w μ1 ⟨rfl, md1⟩
  have K1 := md1.k0 hK
  have A1 : q_AR μ1 b s := by
    obtain ⟨hM, hL, hO, hT, hD, hR, hN, hU, hP⟩ := id hA
    have hC := md1
    exact ⟨hM.fr hC.1 rfl, hL.fr hC.1 rfl, hO.fr hC.1 rfl, hT.fr hC.1 rfl, hD.fr hC.1 rfl, hR.fr hC.1 rfl, hN.fr hC.1 rfl, hU.fr hC.1 rfl, hP.fr hC.1 rfl⟩
  have z1 : mI μ1 803 (b + 38) = 0 := by rw [md1.1.i 803 rfl]; exact hz
  rw [wp_ite]
  by_cases hr : rsn s m buy month price lots = 0
  rotate_left
  · rw [if_neg hr] at eF
    rw [if_neg (fun z => hr ((rsn_nn s m buy month price lots).mp z)), wp_rt, eF]
    exact ⟨rfl, rOK.of A1 md1 rfl z1⟩
  rw [if_pos hr] at eF
  rw [if_pos ((rsn_nn s m buy month price lots).mpr hr)]
  obtain ⟨⟨h1, h2, h3, h4⟩, h5, h6⟩ := rsn_ok hr
  have hn := hI.1.1
  obtain ⟨i, hi, rfl⟩ := inR_i3 h1
  obtain ⟨j, hj, rfl⟩ := inR_i3 h2
  have ni : q_nat (q_i3 i) = i := i3_toNat (by omega)
  have nj : q_nat (q_i3 j) = j := i3_toNat (by omega)
  rw [ni, nj] at eF
  have hsl := side_le (sO s).1 (q_i3 j) (opp buy)
  obtain ⟨⟨B', b1, b2⟩, q1, q2, q3, q_q4, q5, q6⟩ := fillS_ok (mem := i) (buy := buy) (price := price) hj 121 s (100 * c) lots hI.b ho (by omega) hi (by omega) (by omega)
  refine r_fillL (b := b) (price := price) (mem := i) hc hbuy hj 121 s μ1 (100 * c) lots FU K1 A1 hI.b ho (by omega) hi (by omega) (by omega) (fun _ => by omega) (by show 123 ≤ 100000; omega) ?_
  obtain ⟨R, eR⟩ : ∃ R, R = fillS i buy j price 121 s lots := ⟨_, rfl⟩
  rw [← eR] at eF b1 b2 q1 q2 q3 q_q4 q5 q6 ⊢
  intro μ2 A2 m2 zz
  have K2 := m2.k0 K1
  have z2 : mI μ2 803 (b + 38) = 0 := by rw [zz]; exact z1
  unfold fOrdIn at eF
  unfold F_X12_order_L374
  have done : F = (lots - R.1, R.2) → q_wp (F_X12_order_L465 lots R.1) μ2 (fun r ν => r = F.1 ∧ rOK μ b F.2 0 ν) := by
    intro e; rw [e]
    unfold F_X12_order_L465
    rw [wp_rt]
    exact ⟨rfl, A2, (md1.tr m2).wk rfl, z2⟩
  rw [wp_ite]
  by_cases hl0 : R.1 ≤ 0
  · rw [if_pos (Or.inl hl0)] at eF; rw [if_pos hl0]; exact done eF
  have hnt2 := b2.2.2.2.1.1
  obtain ⟨hM, hL, hO, hT, hD, hR, hN, hU, hP⟩ := id A2
  rw [if_neg hl0, wp_bn, xgI12 K2, show mI μ2 (64 * 12 + 23) (b + 38) = q_i3 (sT R.2).1 from hT.1, wp_ite]
  have hle7 : (700 : Int32) ≤ q_i3 (sT R.2).1 ↔ 700 ≤ (sT R.2).1 := i3_le (a := 700) (by omega) (by omega)
  by_cases h7 : 700 ≤ (sT R.2).1
  · rw [if_pos (Or.inr h7)] at eF; rw [if_pos (hle7.mpr h7)]; exact done eF
  rw [if_neg (fun z => z.elim hl0 h7)] at eF
  rw [if_neg (fun z => h7 (hle7.mp z))]
  refine r_ordEnd K2 hO.1 (by omega) hbuy ?_
  obtain ⟨o, eo⟩ : ∃ o : Od, o = ((sO R.2).2, q_i3 i, buy, q_i3 j, price, R.1) := ⟨_, rfl⟩
  have O3 := ro_add (o := o) hO rfl
  have m3 : Md [2280] μ2 (w5 μ2 280 (b + 54) (sO R.2).1.length (q_i3 i) buy (q_i3 j) price R.1) := w5_md (k := 280) (kr K2 54 279 (by decide))
  have m4 := m3.tr (Md.sI (f := 789) (a := b + 38) (v := q_i3 ((sO R.2).1.length + 1)) (kr (m3.k0 K2) 38 12 (by decide)))
  rw [eo] at O3
  have O3 : RO (sI (w5 μ2 280 (b + 54) (sO R.2).1.length (q_i3 i) buy (q_i3 j) price R.1) 789 (b + 38) (q_i3 ((sO R.2).1.length + 1))) b (sO (addO R.2 (q_i3 i) buy (q_i3 j) price R.1)) := O3
  obtain ⟨ν, eν⟩ : ∃ ν, ν = sI (w5 μ2 280 (b + 54) (sO R.2).1.length (q_i3 i) buy (q_i3 j) price R.1) 789 (b + 38) (q_i3 ((sO R.2).1.length + 1)) := ⟨_, rfl⟩
  rw [← eν] at O3 m4 ⊢
  rw [eF]
  have hC := m4
  exact ⟨rfl, ⟨hM.fr hC.1 rfl, hL.fr hC.1 rfl, O3, hT.fr hC.1 rfl, hD.fr hC.1 rfl, hR.fr hC.1 rfl, hN.fr hC.1 rfl, hU.fr hC.1 rfl, hP.fr hC.1 rfl⟩, ((md1.tr m2).tr m4).wk rfl, by rw [m4.1.i 803 rfl]; exact z2⟩

abbrev agn (v : q_VM) (j : Nat) (lg : Int32) (y : Nat) : Prop := if lg = 0 then 0 < (vPs v y j).toInt else (vPs v y j).toInt < 0
def inc1 (n a : Nat) : Nat := if n ≤ a + 1 then 0 else a + 1
def nxo (v : q_VM) (j : Nat) (lg : Int32) (n : Nat) : Nat → Nat → Nat
  | 0, a => a
  | f + 1, a => if agn v j lg (inc1 n a) then inc1 n a else nxo v j lg n f (inc1 n a)
def byr (lg : Int32) (x y : Nat) : Nat := if lg = 0 then x else y
def slr (lg : Int32) (x y : Nat) : Nat := if lg = 0 then y else x
def clo (x j : Nat) (lg p : Int32) : Nat → Nat → q_St → q_St
  | 0, _, s => s
  | k + 1, a, s => clo x j lg p k (nxo (sM s) j lg (vN (sM s)) (vN (sM s)) a) (q_mvS s (byr lg x (nxo (sM s) j lg (vN (sM s)) (vN (sM s)) a)) (slr lg x (nxo (sM s) j lg (vN (sM s)) (vN (sM s)) a)) j 1 p)
def q_lgX (w : Int32) : Int32 := if w ≤ 0 then 0 else 1
def cloM (P : Nat → Int32) (x j : Nat) (s : q_St) : q_St := clo x j (q_lgX (vPs (sM s) x j)) (P j) (vPs (sM s) x j).toInt.natAbs x s
def cloA (P : Nat → Int32) (x : Nat) : Nat → q_St → q_St
  | 0, s => s
  | k + 1, s => cloM P x k (cloA P x k s)
theorem c_exch0 {μ : Mem} {b bi si j : Nat} {vm : q_VM} {vl : VL} {vo : q_VO} {lots p : Int32} (hK : K0 μ b) (hW : WF μ) (hM : q_CM μ b vm) (hL : q_CL μ b vl) (hO : q_CO μ b vo) (hn : vN vm ≤ 12) (hb : bi < vN vm) (hs : si < vN vm) (hj : j < 6) (hl : 1 ≤ lots.toInt ∧ lots.toInt ≤ 50) (hbd : ∀ i, i < 12 → ∀ k, k < 6 → -2000000000 ≤ (vPs vm i k).toInt ∧ (vPs vm i k).toInt ≤ 2000000000) (hlen : (vl.1 j).length ≤ 2000) (hp : ∀ q, q ∈ vl.1 j → 0 < q.2.toInt) (hm : moreX vm bi j lots ≤ 0) :
    q_wp (F_X11_exchange b (q_i3 bi) (q_i3 si) (q_i3 j) lots p) μ (fun _ ρ => q_CM ρ b (mvM vm bi si j lots p) ∧ q_CL ρ b (mvG vm vl.1 bi si j lots, vl.2) ∧ q_CO ρ b vo ∧ Cs [579, 832, 833, 834, 2372, 2104, 65] [12 + 4 * j] 0 0 b μ ρ) := by
  unfold F_X11_exchange
  have rb : q_inR (q_i3 bi) (vN vm) := i3_inR hb (by omega)
  have rs : q_inR (q_i3 si) (vN vm) := i3_inR hs (by omega)
  rw [wp_bn, xpR11 hK, wp_bn, wp_eq (c_memberOf hK hW hM _), if_pos rb, wp_bn, xpR11 hK, wp_bn, wp_eq (c_memberOf hK hW hM _), if_pos rs, i3_toNat (by omega), i3_toNat (by omega), wp_ite, if_neg (by simp), wp_ite, if_neg (by simp), wp_ite]
  by_cases he : bi = si
  · rw [if_neg (by rw [he]; simp), wp_rt]
    unfold mvM mvG; rw [if_pos he, if_pos he]
    exact ⟨hM, hL, hO, (Cs.rf hW).wk rfl rfl (by omega) (by omega)⟩
  rw [if_pos (fun z => he ((i3_eq (by omega) (by omega)).mp z)), wp_bn, xgP11_2 hK, wp_bn, xmo hK hj, wp_bn, xpR2 hK hj, wp_bn]
  refine q_wp_mono (c_takeLongs hK hW hL hj (by omega) hp (by omega)) ?_
  rintro _ μ1 ⟨hC1, hf1, hL1⟩
  have K1 := hC1.k0 hK rfl
  have W1 := hC1.1
  have M1 : q_CM μ1 b vm := hM.fr hC1.2.1 (hC1.2.2.1 33 (by decide) (by simp; omega)) rfl
  have emr : ∀ i, mr μ1 b i = mr μ b i := fun i => by unfold mr; rw [hC1.2.2.1 33 (by decide) (by simp; omega)]
  have O1 : q_CO μ1 b vo := hO.keep hK hW hj hC1 rfl fun r hr hnot => ⟨by rw [hC1.2.1.i 576 rfl], by rw [hC1.2.1.i 577 rfl], by rw [hC1.2.1.i 578 rfl], hf1 r hnot⟩
  have gains : ∀ ν vl' x y, K0 ν b → WF ν → q_CM ν b vm → (∀ i, mr ν b i = mr μ b i) → q_CL ν b vl' → q_CO ν b vo → Cs [579, 832, 833, 834, 2372] [12 + 4 * j] x y b μ ν → x ≤ 0 → y ≤ 0 → vl' = (mvG vm vl.1 bi si j lots, vl.2) → q_wp (F_X11_exchange_L96 (q_i3 j) lots p (some (mr μ b bi)) (some (mr μ b si))) ν (fun _ ρ => q_CM ρ b (mvM vm bi si j lots p) ∧ q_CL ρ b (mvG vm vl.1 bi si j lots, vl.2) ∧ q_CO ρ b vo ∧ Cs [579, 832, 833, 834, 2372, 2104, 65] [12 + 4 * j] 0 0 b μ ρ) := by
    intro ν vl' x y Kν Wν Mν er Lν Oν Cν hx hy hv
    unfold F_X11_exchange_L96
    rw [← er bi, ← er si, wp_bn, wp_pRc]
    refine ⟨(Mν.2 bi hb).1.1, ?_⟩
    rw [wp_bn]
    refine q_wp_mono (c_gain Kν Wν Mν hb hj) ?_
    rintro _ ν1 ⟨G1, m1⟩
    have Kν1 := m1.k0 Kν
    obtain ⟨Wν1, ll1⟩ := m1.wf Wν rfl
    have er1 : mr ν b si = mr ν1 b si := by unfold mr; rw [ll1]
    rw [er1, wp_bn, wp_pRc]
    refine ⟨(G1.2 si hs).1.1, ?_⟩
    rw [wp_bn]
    refine q_wp_mono (c_gain Kν1 Wν1 G1 hs hj) ?_
    rintro _ ν2 ⟨G2, m2⟩
    rw [wp_rt]
    have hm := m1.tr m2
    have hCm := hm.cs (b := b) Wν rfl
    refine ⟨?_, ?_, ?_, ?_⟩
    · unfold mvM; rw [if_neg he]; exact G2
    · rw [← hv]; exact Lν.fr hCm.2.1 (fun i hi => hCm.2.2.1 _ (lgO_lo hi) (by simp)) rfl
    · exact Oν.fr hCm.2.1 (fun i hi s => hCm.2.2.1 _ (sdO_lo hi s) (by simp)) rfl
    · exact (Cν.tr hCm).wk rfl (by unfold subL; simp) (by omega) (by omega)
  obtain ⟨⟨m1, m2, m3, m4⟩, q1, q2, q3, q_q4, q5⟩ := M1.2 bi hb
  rw [← emr bi, wp_bn, wp_gP, show mP μ1 (64 * 1 + 0) (mr μ1 b bi) = some (mr μ1 b bi + 1) from m2]
  refine ⟨m1, ?_⟩
  rw [wp_bn, wp_lI, m4, inA_i3 (by omega), i3_toNat (by omega), q5 j hj]
  refine ⟨m3, hj, ?_⟩
  rw [emr bi]
  obtain ⟨mq1, mq2⟩ := more_eq (hbd bi (by omega) j hj) hl
  rw [wp_ite]
  have hG : mvG vm vl.1 bi si j lots = q_upd vl.1 j (mvL vm (vl.1 j) bi si j lots) := by unfold mvG; rw [if_neg he]
  rw [if_pos (mq1.mpr hm)]
  refine gains μ1 _ 0 0 K1 W1 M1 emr hL1 O1 (hC1.wk rfl (by unfold subL; simp) (by omega) (by omega)) (by omega) (by omega) ?_
  rw [hG]; unfold mvL; rw [if_pos hm, List.append_nil]
