theorem r_pass {μ : Mem} {b c : Nat} {s : q_St} (hK : K0 μ b) (hA : q_AR μ b s) (hI : Iv s c) (hc : c ≤ 600) (p : Int32) : q_wp (F_X12_pass (b + 38) p) μ (fun x ν => x = (fPass s p).1 ∧ rOK μ b (fPass s p).2 0 ν) := by
  have hn := hI.1.1
  have hIN := hI.2.2.2.2.2.2.1
  have hnn := hIN.1
  have hnt := hI.2.2.2.1.1
  unfold F_X12_pass
  refine r_start hK hA fun μ hK hA hz => ?_
  obtain ⟨hM, hL, hO, hT, hD, hR, hN, hU, hP⟩ := id hA
  obtain ⟨F, eF⟩ : ∃ F, F = fPass s p := ⟨_, rfl⟩
  rw [← eF]
  unfold fPass at eF
  rw [wp_bn, xpR12 hK, wp_bn, wp_eq (r_isHeld hK hN hnn), wp_ite]
  by_cases h : q_inR p (q_sN s).1 ∧ (q_sN s).2 (q_nat p) 0 = 1
  rotate_left
  · rw [if_neg (fun z => h z.1)] at eF
    rw [if_neg h, if_neg (by decide), wp_rt, eF]; exact ⟨rfl, rOK.rf hA hz⟩
  obtain ⟨i, hi, rfl⟩ := inR_i3 h.1
  have en : q_nat (q_i3 i) = i := i3_toNat (by omega)
  rw [if_pos h, if_pos (by decide)]
  rw [en] at eF h
  obtain ⟨n1, n2, n3, n5, n6, n0⟩ := hIN.2 i hi
  obtain ⟨h1, hh1, eh⟩ := inR_i3 n1
  obtain ⟨j, hj, ej⟩ := inR_i3 n5
  have f5 : aI μ 344 (b + 62) (7 * i + 5) = q_i3 j := by rw [← ej]; exact hN.2 i hi 5 (by omega)
  have f1 : aI μ 344 (b + 62) (7 * i + 1) = q_i3 h1 := by rw [← eh]; exact hN.2 i hi 1 (by omega)
  have f6 : aI μ 344 (b + 62) (7 * i + 6) = (q_sN s).2 i 6 := hN.2 i hi 6 (by omega)
  have f4 : aI μ 344 (b + 62) (7 * i + 4) = (q_sN s).2 i 4 := hN.2 i hi 4 (by omega)
  have ejn : q_nat ((q_sN s).2 i 5) = j := by rw [ej]; exact i3_toNat (by omega)
  have hIL := hI.2.1 j hj
  have hlen : ((sG s).1 j).length ≤ 1500 := by have := hIL.1; omega
  have epl : psL s i = (sG s).1 j := by unfold psL; rw [ejn]
  obtain ⟨l, el⟩ : ∃ l, l = (sG s).1 j := ⟨_, rfl⟩
  have eX : psX s i = nIx l ((q_sN s).2 i 6) (stI' l (q_i3 h1)) := by unfold psX; rw [epl, eh, el]
  obtain ⟨L1, L2, L3⟩ := hL j hj
  rw [← el] at L1 L3 hlen
  rw [epl, eX, ← el] at eF
  have b1 : 7 * i + 1 < 560 := by omega
  have b4 : 7 * i + 4 < 560 := by omega
  have b5 : 7 * i + 5 < 560 := by omega
  have b6 : 7 * i + 6 < 560 := by omega
  rw [wp_bn, xgP12_33 hK, i3m7, i3p1, wp_bn, xl344 hK, i3_toNat (by omega), f1]
  refine ⟨inA_of (by omega) b1, ?_⟩
  rw [wp_bn, xgP12_33 hK, i3p5, wp_bn, xl344 hK, i3_toNat (by omega), f5]
  refine ⟨inA_of (by omega) b5, ?_⟩
  rw [i3m1600]
  have was1 : was ((q_sN s).2 i 6) (q_i3 h1) = true := by unfold was; rw [← eh]; simpa using n6
  have hfle : frm l (q_i3 h1) ≤ l.length := List.findIdx_le_length
  have L141 : ∀ X, X = nIx l ((q_sN s).2 i 6) (stI' l (q_i3 h1)) → q_wp (F_X12_pass_L141 (b + 38) (q_i3 (7 * i)) (q_i3 h1) (q_i3 j) (q_i3 (1600 * j)) (q_i3 X)) μ (fun x ν => x = F.1 ∧ rOK μ b F.2 0 ν) := by
    intro X hX
    have hXle := nIx_le (had := (q_sN s).2 i 6) (show stI' l (q_i3 h1) ≤ l.length by unfold stI'; split <;> omega)
    rw [← hX] at hXle eF
    unfold F_X12_pass_L141
    rw [wp_bn, xgP12_18 hK, wp_bn, xl264 hK, i3_toNat (by omega), L1]
    refine ⟨inA_of (by omega) hj, ?_⟩
    rw [wp_ite]
    by_cases hx : X < l.length
    rotate_left
    · rw [if_neg (fun z => hx z.2)] at eF
      rw [if_neg (fun z => z (by rw [show X = l.length by omega])), wp_rt, eF]; exact ⟨rfl, rOK.rf hA hz⟩
    rw [if_pos ⟨h, hx⟩] at eF
    rw [if_pos (fun z => by have := (i3_eq (by omega) (by omega)).mp z; omega)]
    have eT : psT s i = (l.getD X (0, 0)).1 := by unfold psT; rw [epl, eX, ← hX, el]
    have hmem : l.getD X (0, 0) ∈ (sG s).1 j := by
      rw [← el, List.getD_eq_getElem?_getD, List.getElem?_eq_getElem hx]; exact List.getElem_mem _
    have hto := (hIL.2.1 _ hmem).1
    obtain ⟨t, ht, et⟩ := inR_i3 hto
    have ent : q_nat (q_i3 t) = t := i3_toNat (by omega)
    have enh : q_nat ((q_sN s).2 i 1) = h1 := by rw [eh]; exact i3_toNat (by omega)
    rw [eT, et, ent, enh, ej] at eF
    rw [wp_bn, xgP12_16 hK, i3_add, wp_bn, xl248 hK, i3_toNat (by omega), (L3 X hx).1, et]
    refine ⟨inA_of (by omega) (by omega), ?_⟩
    rw [wp_bn, xgI12 hK, show mI μ (64 * 12 + 24) (b + 38) = q_i3 (dT (sD s)) from hD.1, wp_bn, xgP12_33 hK, i3p4, wp_bn, xl344 hK, i3_toNat (by omega), f4]
    refine ⟨inA_of (by omega) b4, ?_⟩
    rw [wp_bn, xpR12 hK, wp_bn]
    refine q_wp_mono (r_ruleOf hK hU) ?_
    rintro fee μ1 ⟨efee, md1⟩
    rw [← efee] at eF
    have K1 := md1.k0 hK
    have M1 := hM.fr md1.1 rfl
    have N1 := hN.fr md1.1 rfl
    rw [wp_bn, xgP12_11 K1, wp_bn, xl209 K1, i3_toNat (by omega), (M1.2 h1 (by omega)).1]
    refine ⟨inA_of (by omega) (by omega), ?_⟩
    rw [wp_bn, xs209 K1, i3_toNat (by omega)]
    refine ⟨inA_of (by omega) (by omega), ?_⟩
    obtain ⟨μ2, e2⟩ : ∃ μ2, μ2 = tL μ1 209 (b + 45) h1 (vPd (sM s) h1 - fee.toInt64) := ⟨_, rfl⟩
    rw [← e2]
    have md2 : Md [2209] μ1 μ2 := by rw [e2]; exact Md.tL (k := 209) (kr K1 45 208 (by decide))
    have K2 := md2.k0 K1
    have M2 : q_RM μ2 b (mPaid (sM s) h1 (vPd (sM s) h1 - fee.toInt64)) := by rw [e2]; exact M1.paid _
    rw [wp_bn, xgP12_11 K2, wp_bn, xl209 K2, i3_toNat (by omega), (M2.2 t (by omega)).1]
    refine ⟨inA_of (by omega) (by omega), ?_⟩
    rw [wp_bn, xs209 K2, i3_toNat (by omega)]
    refine ⟨inA_of (by omega) (by omega), ?_⟩
    obtain ⟨μ3, e3⟩ : ∃ μ3, μ3 = tL μ2 209 (b + 45) t (vPd (mPaid (sM s) h1 (vPd (sM s) h1 - fee.toInt64)) t + fee.toInt64) := ⟨_, rfl⟩
    rw [← e3]
    have md3 : Md [2209] μ2 μ3 := by rw [e3]; exact Md.tL (k := 209) (kr K2 45 208 (by decide))
    have K3 := md3.k0 K2
    have M3 : q_RM μ3 b (feeM (sM s) h1 t fee) := by rw [e3]; exact M2.paid _
    have md13 := (md1.tr md2).tr md3
    have N3 : q_RN μ3 b (q_sN s) := hN.fr md13.1 rfl
    have N4 := RX.set (f := 802) (k := 344) (o := 62) (W := 7) (x := q_i3 t) N3 hi (show 1 < 7 by omega)
    have k62 := kr K3 62 343 (by decide)
    have md4 : Md [2344] μ3 (tI μ3 344 (b + 62) (7 * i + 1) (q_i3 t)) := Md.tI (k := 344) k62
    rw [wp_bn, xgP12_33 K3, i3p1, wp_bn, xs344 K3, i3_toNat (by omega)]
    refine ⟨inA_of (by omega) b1, ?_⟩
    obtain ⟨μ4, e4⟩ : ∃ μ4, μ4 = tI μ3 344 (b + 62) (7 * i + 1) (q_i3 t) := ⟨_, rfl⟩
    rw [← e4] at N4 md4 ⊢
    have K4 := md4.k0 K3
    have f44 : aI μ4 344 (b + 62) (7 * i + 4) = (q_sN s).2 i 4 := by rw [e4, aI_tI', if_neg (by omega), md13.1.ai 344 rfl]; exact f4
    have f46 : aI μ4 344 (b + 62) (7 * i + 6) = (q_sN s).2 i 6 := by rw [e4, aI_tI', if_neg (by omega), md13.1.ai 344 rfl]; exact f6
    rw [wp_bn, xgP12_33 K4, wp_bn, xl344 K4, i3_toNat (by omega), f44]
    refine ⟨inA_of (by omega) b4, ?_⟩
    rw [wp_bn, xs344 K4, i3_toNat (by omega)]
    refine ⟨inA_of (by omega) b4, ?_⟩
    have N5 := RX.set (f := 802) (k := 344) (o := 62) (W := 7) (x := (q_sN s).2 i 4 + 1) N4 hi (show 4 < 7 by omega)
    have md5 : Md [2344] μ4 (tI μ4 344 (b + 62) (7 * i + 4) ((q_sN s).2 i 4 + 1)) := Md.tI (k := 344) (kr K4 62 343 (by decide))
    obtain ⟨μ5, e5⟩ : ∃ μ5, μ5 = tI μ4 344 (b + 62) (7 * i + 4) ((q_sN s).2 i 4 + 1) := ⟨_, rfl⟩
    rw [← e5] at N5 md5 ⊢
    have K5 := md5.k0 K4
    have f56 : aI μ5 344 (b + 62) (7 * i + 6) = (q_sN s).2 i 6 := by rw [e5, aI_tI', if_neg (by omega)]; exact f46
    rw [wp_bn, xgP12_33 K5, i3p6, wp_bn, xl344 K5, i3_toNat (by omega), f56]
    refine ⟨inA_of (by omega) b6, ?_⟩
    rw [wp_bn, xs344 K5, i3_toNat (by omega), wp_rt]
    refine ⟨inA_of (by omega) b6, by rw [eF], ?_⟩
    have N6 := RX.set (f := 802) (k := 344) (o := 62) (W := 7) (x := (q_sN s).2 i 6 ||| ((1 : Int32) <<< (q_i3 t &&& 31))) N5 hi (show 6 < 7 by omega)
    have md6 : Md [2344] μ5 (tI μ5 344 (b + 62) (7 * i + 6) ((q_sN s).2 i 6 ||| ((1 : Int32) <<< (q_i3 t &&& 31)))) := Md.tI (k := 344) (kr K5 62 343 (by decide))
    have hC := ((md13.tr md4).tr md5).tr md6
    rw [eF]
    exact rOK.of ⟨M3.fr ((md4.tr md5).tr md6).1 rfl, hL.fr hC.1 rfl, hO.fr hC.1 rfl, hT.fr hC.1 rfl, hD.fr hC.1 rfl, hR.fr hC.1 rfl, N6, hU.fr hC.1 rfl, hP.fr hC.1 rfl⟩ hC rfl (by rw [hC.1.i 803 rfl]; exact hz)
  have L97 : ∀ (d k f : Nat), k + d = l.length → d < f → nIx l ((q_sN s).2 i 6) k = nIx l ((q_sN s).2 i 6) (stI' l (q_i3 h1)) → q_wp (F_X12_pass_L97 f (b + 38) (q_i3 (7 * i)) (q_i3 h1) (q_i3 j) (q_i3 (1600 * j)) (q_i3 k)) μ (fun x ν => x = F.1 ∧ rOK μ b F.2 0 ν) := by
    intro d
    induction d with
    | zero =>
      intro k f hk hf hnx
      obtain ⟨f, rfl⟩ : ∃ g, f = g + 1 := ⟨f - 1, by omega⟩
      unfold F_X12_pass_L97
      rw [wp_bn, xgP12_18 hK, wp_bn, xl264 hK, i3_toNat (by omega), L1]
      refine ⟨inA_of (by omega) hj, ?_⟩
      rw [wp_ite, if_pos ((i3_le (by omega) (by omega)).mpr (by omega))]
      exact L141 k (by rw [← hnx, nIx_end (by omega)])
    | succ d ih =>
      intro k f hk hf hnx
      obtain ⟨f, rfl⟩ : ∃ g, f = g + 1 := ⟨f - 1, by omega⟩
      unfold F_X12_pass_L97
      have hkl : k < l.length := by omega
      rw [wp_bn, xgP12_18 hK, wp_bn, xl264 hK, i3_toNat (by omega), L1]
      refine ⟨inA_of (by omega) hj, ?_⟩
      rw [wp_ite, if_neg (fun z => by have := (i3_le (by omega) (by omega)).mp z; omega), wp_bn, xgP12_33 hK, i3p6, wp_bn, xl344 hK, i3_toNat (by omega), f6]
      refine ⟨inA_of (by omega) b6, ?_⟩
      rw [wp_bn, xgP12_16 hK, i3_add, wp_bn, xl248 hK, i3_toNat (by omega), (L3 k hkl).1]
      refine ⟨inA_of (by omega) (by omega), ?_⟩
      rw [nIx_step hkl] at hnx
      rw [wp_ite]
      by_cases hw : was ((q_sN s).2 i 6) (l.getD k (0, 0)).1 = true
      · have hw' : ((q_sN s).2 i 6 >>> ((l.getD k (0, 0)).1 &&& 31)) &&& 1 = 1 := by unfold was at hw; simpa using hw
        rw [if_neg (fun z => z hw'), i3_1]
        rw [if_pos hw] at hnx
        exact ih (k + 1) f (by omega) (by omega) hnx
      · have hw' : ¬ ((q_sN s).2 i 6 >>> ((l.getD k (0, 0)).1 &&& 31)) &&& 1 = 1 := by unfold was at hw; simpa using hw
        rw [if_pos hw']
        rw [if_neg hw] at hnx
        exact L141 k hnx
  refine wp_loop (σ := Unit) (fun f k _ => F_X12_pass_L50 f (b + 38) (q_i3 (7 * i)) (q_i3 h1) (q_i3 j) (q_i3 (1600 * j)) (q_i3 k)) (frm l (q_i3 h1)) (fun k _ ν => ν = μ) _ ?_ ?_ FU 0 () μ (by omega) (by show _ < 100000; omega) rfl
  · rintro f _ ν rfl
    show q_wp (F_X12_pass_L50 (f + 1) (b + 38) (q_i3 (7 * i)) (q_i3 h1) (q_i3 j) (q_i3 (1600 * j)) (q_i3 (frm l (q_i3 h1)))) ν _
    have L82 : q_wp (F_X12_pass_L82 (b + 38) (q_i3 (7 * i)) (q_i3 h1) (q_i3 j) (q_i3 (1600 * j)) (q_i3 (frm l (q_i3 h1)))) ν (fun x ν' => x = F.1 ∧ rOK ν b F.2 0 ν') := by
      unfold F_X12_pass_L82
      rw [wp_bn, xgP12_18 hK, wp_bn, xl264 hK, i3_toNat (by omega), L1]
      refine ⟨inA_of (by omega) hj, ?_⟩
      rw [wp_ite]
      by_cases e : frm l (q_i3 h1) < l.length
      · rw [if_pos (fun z => by have := (i3_eq (by omega) (by omega)).mp z; omega)]
        refine L97 (l.length - frm l (q_i3 h1)) (frm l (q_i3 h1)) FU (by omega) (by show _ < 100000; omega) ?_
        have hm : (l.getD (frm l (q_i3 h1)) (0, 0)).1 = q_i3 h1 := by
          have := List.findIdx_getElem (p := fun q : Int32 × Int32 => q.1 == q_i3 h1) (xs := l) (w := e)
          change (l[frm l (q_i3 h1)].1 == q_i3 h1) = true at this
          rw [List.getD_eq_getElem?_getD, List.getElem?_eq_getElem e]
          simpa using this
        rw [nIx_step e, hm, if_pos was1]; unfold stI'; rw [if_pos e]
      · rw [if_neg (fun z => z (by rw [show frm l (q_i3 h1) = l.length by omega]))]
        refine L97 l.length 0 FU (by omega) (by show _ < 100000; omega) ?_
        unfold stI'; rw [if_neg e]
    unfold F_X12_pass_L50
    rw [wp_bn, xgP12_18 hK, wp_bn, xl264 hK, i3_toNat (by omega), L1]
    refine ⟨inA_of (by omega) hj, ?_⟩
    rw [wp_ite]
    by_cases e : frm l (q_i3 h1) < l.length
    · rw [if_neg (fun z => by have := (i3_le (by omega) (by omega)).mp z; omega), wp_bn, xgP12_16 hK, i3_add, wp_bn, xl248 hK, i3_toNat (by omega), (L3 _ e).1]
      refine ⟨inA_of (by omega) (by omega), ?_⟩
      have hm : (l.getD (frm l (q_i3 h1)) (0, 0)).1 = q_i3 h1 := by
        have := List.findIdx_getElem (p := fun q : Int32 × Int32 => q.1 == q_i3 h1) (xs := l) (w := e)
        change (l[frm l (q_i3 h1)].1 == q_i3 h1) = true at this
        rw [List.getD_eq_getElem?_getD, List.getElem?_eq_getElem e]
        simpa using this
      rw [wp_ite, if_pos hm]; exact L82
    · rw [if_pos ((i3_le (by omega) (by omega)).mpr (by omega))]; exact L82
  · rintro f k _ ν hk rfl ih
    show q_wp (F_X12_pass_L50 (f + 1) (b + 38) (q_i3 (7 * i)) (q_i3 h1) (q_i3 j) (q_i3 (1600 * j)) (q_i3 k)) ν _
    unfold F_X12_pass_L50
    have hkl : k < l.length := by omega
    rw [wp_bn, xgP12_18 hK, wp_bn, xl264 hK, i3_toNat (by omega), L1]
    refine ⟨inA_of (by omega) hj, ?_⟩
    rw [wp_ite, if_neg (fun z => by have := (i3_le (by omega) (by omega)).mp z; omega), wp_bn, xgP12_16 hK, i3_add, wp_bn, xl248 hK, i3_toNat (by omega), (L3 k hkl).1]
    refine ⟨inA_of (by omega) (by omega), ?_⟩
    have : ¬ (l.getD k (0, 0)).1 = q_i3 h1 := by
      have := List.not_of_lt_findIdx (p := fun q : Int32 × Int32 => q.1 == q_i3 h1) hk
      rw [List.getD_eq_getElem?_getD, List.getElem?_eq_getElem hkl]
      simpa using this
    rw [wp_ite, if_neg this, i3_1]
    exact ih () ν rfl

def sumM (v : q_VM) (h g : Nat) (x : Int64) : q_VM := mPaid (mPaid v h (vPd v h - x)) g (vPd (mPaid v h (vPd v h - x)) g + x)
def kpX (s : q_St) (i h g k j : Nat) : q_St := wR (q_wN (wM (wG s (mvG (sM s) (sG s).1 g h j 1, (sG s).2)) (sumM (mvM (sM s) g h j 1 (lat (sD s) j)) h g ((lat (sD s) j).toInt64 + (q_rv (sU s) 4 (q_i3 (dT (sD s))) (q_i3 j) (lat (sD s) j) 0 ((sR s).2 k 0) ((sR s).2 k 1)).toInt64))) ((q_sN s).1, upd2 (q_sN s).2 i 0 2)) ((sR s).1, upd2 (upd2 (sR s).2 k 3 1) k 2 (q_i3 h))
def kpV (s : q_St) (i k : Nat) : q_St := wR (q_wN s ((q_sN s).1, upd2 (q_sN s).2 i 0 3)) ((sR s).1, upd2 (sR s).2 k 3 1)
def fKeepI (s : q_St) (i h g k j : Nat) : Int32 × q_St := if vPs (sM s) h j ≤ 0 ∨ 0 ≤ vPs (sM s) g j then (0, kpV s i k) else (1, kpX s i h g k j)
def fKeep (s : q_St) (p : Int32) : Int32 × q_St := if q_inR p (q_sN s).1 ∧ (q_sN s).2 (q_nat p) 0 = 1 then fKeepI s (q_nat p) (q_nat ((q_sN s).2 (q_nat p) 1)) (q_nat ((q_sN s).2 (q_nat p) 2)) (q_nat ((q_sN s).2 (q_nat p) 3)) (q_nat ((q_sN s).2 (q_nat p) 5)) else (-1, s)
theorem CR.set {μ : Mem} {b i w : Nat} {v : q_VT} {x : Int32} (hK : K0 μ b) (hW : WF μ) (h : CR μ b v) (hi : i < v.1) (hw : w < 4) : CR (sI μ (320 + w) ((q_lst μ (b + 35)).getD i 0) x) b (v.1, upd2 v.2 i w x) ∧ Md [320 + w] μ (sI μ (320 + w) ((q_lst μ (b + 35)).getD i 0) x) ∧ q_lst (sI μ (320 + w) ((q_lst μ (b + 35)).getD i 0) x) = q_lst μ := by
  have hk : mK μ ((q_lst μ (b + 35)).getD i 0) ≠ 0 := by rw [(h.2 i hi).1]; omega
  exact ⟨TX.set (tag := fun w => 320 + w) hW (hK.k 35 14 (by decide)) h.tx hi hw (by omega) (rcTag w hw) (by show 320 + w < 833; omega), Md.sI hk, (hW.sI hk (by omega)).2⟩
theorem lat_pos {v : VD} {n j : Nat} (hI : ID v n) (hj : j < 6) (h0 : 0 < dT v) (h1 : dSt v (dT v - 1) j ≠ -1) : lpv v j = lat v j ∧ lat v j ≠ -1 := by
  have hk : ¬ q_i3 (dT v) < q_i3 (dT v - 1) := fun w => by have := hI.1; have := (i3_lt (by omega) (by omega)).mp w; omega
  obtain ⟨_, q1, q2⟩ := st_lk hI hj (show dT v - 1 < dT v by omega) hk
  have e : lat v j = q_stOf v j (dT v - 1) (q_i3 (dT v)) := by unfold lat; rw [if_neg (by omega)]
  have hne : lat v j ≠ -1 := fun z => by
    have := (q2 h1).1; rw [← e, z] at this; exact absurd this (by decide)
  refine ⟨?_, hne⟩
  rw [lpv_lat hI hj]; unfold pz; rw [if_neg hne]
theorem c_keep {μ : Mem} {b c : Nat} {s : q_St} (hK : K0 μ b) (hW : WF μ) (hA : q_AC μ b s) (hI : Iv s c) (hc : c ≤ 600) (p : Int32) : q_wp (F_X11_keep b p) μ (fun x ν => x = (fKeep s p).1 ∧ cOK μ b (fKeep s p).2 2 2000 ν) := by
  obtain ⟨hM, hL, hO, hT, hD, hR, hN, hU, hP⟩ := id hA
  have hn := hI.1.1
  have hIN := hI.2.2.2.2.2.2.1
  have hnn := hIN.1
  have hnt := hI.2.2.2.1.1
  have hID := hI.2.2.2.2.1
  have hnr := hI.2.2.2.2.2.1.1
  obtain ⟨F, eF⟩ : ∃ F, F = fKeep s p := ⟨_, rfl⟩
  rw [← eF]
  unfold fKeep at eF
  unfold F_X11_keep F_X11_keep_L88
  rw [wp_bn, xpR11 hK, wp_bn, wp_eq (c_heldNotice hK hW hN hnn), wp_ite]
  by_cases h : q_inR p (q_sN s).1 ∧ (q_sN s).2 (q_nat p) 0 = 1
  rotate_left
  · rw [if_neg h] at eF
    rw [if_neg h, if_neg (by simp), wp_rt, eF]; exact ⟨rfl, cOK.rf hK hW hA⟩
  obtain ⟨i, hi, rfl⟩ := inR_i3 h.1
  have en : q_nat (q_i3 i) = i := i3_toNat (by omega)
  rw [if_pos h] at eF
  rw [if_pos h, if_pos (by simp)]
  rw [en] at eF h ⊢
  obtain ⟨g1, g2⟩ := hN.2 i hi
  obtain ⟨r, hr⟩ : ∃ r, r = (q_lst μ (b + 36)).getD i 0 := ⟨_, rfl⟩
  rw [← hr] at g1 g2 ⊢
  have g1' : mK μ r = 3 + 1 := g1
  obtain ⟨n1, n2, n3, n5, n6, n0⟩ := hIN.2 i hi
  obtain ⟨hd, hhd, eh⟩ := inR_i3 n1
  obtain ⟨gv, hgv, eg⟩ := inR_i3 n2
  obtain ⟨k, hk, ek⟩ := inR_i3 n3
  obtain ⟨j, hj, ej⟩ := inR_i3 n5
  have nh : q_nat (q_i3 hd) = hd := i3_toNat (by omega)
  have ng : q_nat (q_i3 gv) = gv := i3_toNat (by omega)
  have nk : q_nat (q_i3 k) = k := i3_toNat (by omega)
  have nj : q_nat (q_i3 j) = j := i3_toNat (by omega)
  rw [eh, eg, ek, ej, nh, ng, nk, nj] at eF
  obtain ⟨t0, t1⟩ := n0 h.2
  rw [ej, i3_toNat (by omega)] at t1
  obtain ⟨lp1, lp2⟩ := lat_pos hID hj t0 t1
  have f1 : mI μ (64 * 3 + 3) r = q_i3 hd := by rw [← eh]; exact g2 1 (by omega)
  have f2 : mI μ (64 * 3 + 0) r = q_i3 gv := by rw [← eg]; exact g2 2 (by omega)
  have f3 : mI μ (64 * 3 + 2) r = q_i3 k := by rw [← ek]; exact g2 3 (by omega)
  have f5 : mI μ (64 * 3 + 1) r = q_i3 j := by rw [← ej]; exact g2 5 (by omega)
  rw [wp_bn, wp_gI, f1]
  refine ⟨g1', ?_⟩
  rw [wp_bn, xpR11 hK, wp_bn, wp_eq (c_memberOf hK hW hM _), if_pos (i3_inR hhd (by omega)), i3_toNat (by omega), wp_bn, wp_gI, f2]
  refine ⟨g1', ?_⟩
  rw [wp_bn, xpR11 hK, wp_bn, wp_eq (c_memberOf hK hW hM _), if_pos (i3_inR hgv (by omega)), i3_toNat (by omega), wp_bn, wp_gI, f3]
  refine ⟨g1', ?_⟩
  rw [wp_bn, xpR11 hK, wp_bn, wp_eq (c_receiptOf hK hW hR _), if_pos (i3_inR hk (by omega)), i3_toNat (by omega), wp_ite, if_neg (by simp), wp_ite, if_neg (by simp), wp_ite, if_pos (by simp)]
  obtain ⟨q, hq⟩ : ∃ q, q = (q_lst μ (b + 35)).getD k 0 := ⟨_, rfl⟩
  obtain ⟨c1, c2⟩ := hR.2 k hk
  obtain ⟨R1, md1, l1⟩ := hR.set (x := 1) hK hW hk (show 3 < 4 by omega)
  rw [← hq] at c1 c2 R1 md1 l1 ⊢
  have kq : mK μ q = 5 + 1 := c1
  rw [wp_bn, wp_wZ]
  refine ⟨kq, Or.inr rfl, ?_⟩
  obtain ⟨μ1, e1⟩ : ∃ μ1, μ1 = sI μ 323 q 1 := ⟨_, rfl⟩
  show q_wp _ (sI μ 323 q 1) _
  have e1' : μ1 = sI μ (320 + 3) q 1 := e1
  rw [← e1'] at R1 md1 l1
  rw [← e1]
  have K1 := md1.k0 hK
  obtain ⟨W1, _⟩ := md1.wf hW rfl
  have M1 : q_CM μ1 b (sM s) := hM.fr md1.1 (by rw [l1]) rfl
  have N1 : q_CN μ1 b (q_sN s) := hN.fr md1.1 (by rw [l1]) rfl
  have er1 : ∀ a, mr μ b a = mr μ1 b a := fun a => by unfold mr; rw [l1]
  have kr1 : mK μ1 r = 3 + 1 := by rw [md1.2.2.1]; exact g1'
  have fr1 : ∀ w, w < 7 → mI μ1 (nTag w) r = mI μ (nTag w) r := fun w hw => by
    obtain ⟨_, _, _, _, t5⟩ := nTag_ne hw
    rw [e1, mI_sI', if_neg (fun z => t5 z.1)]
  have f51 : mI μ1 (64 * 3 + 1) r = q_i3 j := (fr1 5 (by omega)).trans f5
  have lr36 : ∀ ν : Mem, q_lst ν = q_lst μ → (q_lst ν (b + 36)).getD i 0 = r := fun ν e => by rw [e, hr]
  have lr35 : ∀ ν : Mem, q_lst ν = q_lst μ → (q_lst ν (b + 35)).getD k 0 = q := fun ν e => by rw [e, hq]
  obtain ⟨⟨a1, a2, a3, a4⟩, b1, b2, b3, b4, b5⟩ := M1.2 hd hhd
  obtain ⟨⟨a1', a2', a3', a4'⟩, b1', b2', b3', b4', b5'⟩ := M1.2 gv hgv
  rw [er1 hd, er1 gv, wp_bn, wp_gP, show mP μ1 (64 * 1 + 0) (mr μ1 b hd) = some (mr μ1 b hd + 1) from a2]
  refine ⟨a1, ?_⟩
  rw [wp_bn, wp_gI, f51]
  refine ⟨kr1, ?_⟩
  rw [wp_bn, wp_lI, a4, inA_i3 (by omega), i3_toNat (by omega), b5 j hj]
  refine ⟨a3, hj, ?_⟩
  have void : (vPs (sM s) hd j ≤ 0 ∨ 0 ≤ vPs (sM s) gv j) → q_wp (bn (wI 3 5 (some r) (3 : Int32)) fun _ => rt (0 : Int32)) μ1 (fun x ν => x = F.1 ∧ cOK μ b F.2 2 2000 ν) := by
    intro hv
    unfold fKeepI at eF
    rw [if_pos hv] at eF
    obtain ⟨N2, md2, l2⟩ := N1.set (x := 3) K1 W1 hi (show 0 < 7 by omega)
    rw [lr36 μ1 l1] at N2 md2 l2
    rw [wp_bn, wp_wI, wp_rt, eF]
    refine ⟨kr1, rfl, ?_⟩
    have md := md1.tr md2
    have hC := md.cs (b := b) hW rfl
    exact cOK.of hK ⟨hM.fr hC.2.1 (hC.2.2.1 33 (by decide) (by decide)) rfl, hL.fr hC.2.1 (fun i hi => hC.2.2.1 _ (lgO_lo hi) (lgNo (by decide) hi)) rfl, hO.fr hC.2.1 (fun i hi s => hC.2.2.1 _ (sdO_lo hi s) (sdNo (by decide) hi s)) rfl, hT.fr hC.2.1 (hC.2.2.1 34 (by decide) (by decide)) rfl, hD.fr hC.2.1 (hC.2.2.1 37 (by decide) (by decide)) rfl, R1.fr md2.1 (congrFun l2 (b + 35)) rfl, N2, hU.fr hC.2.1 (hC.2.2.1 5 (by decide) (by decide)) rfl, hP.fr hC.2.1 rfl⟩ hC rfl rfl
  rw [wp_ite]
  by_cases hv1 : vPs (sM s) hd j ≤ 0
  · rw [if_pos hv1]; exact void (Or.inl hv1)
  rw [if_neg hv1, wp_bn, wp_gP, show mP μ1 (64 * 1 + 0) (mr μ1 b gv) = some (mr μ1 b gv + 1) from a2']
  refine ⟨a1', ?_⟩
  rw [wp_bn, wp_gI, f51]
  refine ⟨kr1, ?_⟩
  rw [wp_bn, wp_lI, a4', inA_i3 (by omega), i3_toNat (by omega), b5' j hj]
  refine ⟨a3', hj, ?_⟩
  rw [wp_ite]
  have z0 : (0 : Int32).toInt = 0 := rfl
  by_cases hv2 : vPs (sM s) gv j < 0
  rotate_left
  · rw [if_neg hv2]; exact void (Or.inr (by rw [Int32.le_iff_toInt_le]; rw [Int32.lt_iff_toInt_lt] at hv2; omega))
  unfold fKeepI at eF
  rw [if_neg (fun z => z.elim hv1 (fun w => by rw [Int32.le_iff_toInt_le] at w; rw [Int32.lt_iff_toInt_lt] at hv2; omega))] at eF
  rw [if_pos hv2]
  obtain ⟨N2, md2, l2⟩ := N1.set (x := 2) K1 W1 hi (show 0 < 7 by omega)
  rw [lr36 μ1 l1] at N2 md2 l2
  rw [wp_bn, wp_wI]
  refine ⟨kr1, ?_⟩
  obtain ⟨μ2, e2⟩ : ∃ μ2, μ2 = sI μ1 (nTag 0) r 2 := ⟨_, rfl⟩
  show q_wp _ (sI μ1 (nTag 0) r 2) _
  rw [← e2] at N2 md2 l2 ⊢
  have K2 := md2.k0 K1
  obtain ⟨W2, _⟩ := md2.wf W1 rfl
  have l20 : q_lst μ2 = q_lst μ := by rw [l2, l1]
  have R2 : CR μ2 b ((sR s).1, upd2 (sR s).2 k 3 1) := R1.fr md2.1 (by rw [l2]) rfl
  have kr2 : mK μ2 r = 3 + 1 := by rw [md2.2.2.1]; exact kr1
  have fr2 : ∀ w, w < 7 → w ≠ 0 → mI μ2 (nTag w) r = mI μ (nTag w) r := fun w hw hw0 => by
    have inj : ∀ u : Fin 7, ∀ w : Fin 7, nTag u.1 = nTag w.1 → u.1 = w.1 := by decide
    rw [e2, mI_sI', if_neg (fun z => hw0 (inj ⟨w, hw⟩ ⟨0, by omega⟩ z.1)), fr1 w hw]
  rw [wp_bn, wp_gI, show mI μ2 (64 * 3 + 3) r = q_i3 hd from (fr2 1 (by omega) (by omega)).trans f1]
  refine ⟨kr2, ?_⟩
  obtain ⟨R3, md3, l3⟩ := R2.set (x := q_i3 hd) K2 W2 hk (show 2 < 4 by omega)
  rw [lr35 μ2 l20] at R3 md3 l3
  have kq2 : mK μ2 q = 5 + 1 := by rw [md2.2.2.1, md1.2.2.1]; exact kq
  rw [wp_bn, wp_wI]
  refine ⟨kq2, ?_⟩
  obtain ⟨μ3, e3⟩ : ∃ μ3, μ3 = sI μ2 (320 + 2) q (q_i3 hd) := ⟨_, rfl⟩
  show q_wp _ (sI μ2 (320 + 2) q (q_i3 hd)) _
  rw [← e3] at R3 md3 l3 ⊢
  have K3 := md3.k0 K2
  obtain ⟨W3, _⟩ := md3.wf W2 rfl
  have md13 := (md1.tr md2).tr md3
  have l30 : q_lst μ3 = q_lst μ := by rw [l3, l20]
  have hC13 := md13.cs (b := b) hW rfl
  have kr3 : mK μ3 r = 3 + 1 := by rw [md3.2.2.1]; exact kr2
  have fr3 : ∀ w, w < 7 → w ≠ 0 → mI μ3 (nTag w) r = mI μ (nTag w) r := fun w hw hw0 => by
    have ne : ∀ w : Fin 7, nTag w.1 ≠ 322 := by decide
    rw [e3, mI_sI', if_neg (fun z => ne ⟨w, hw⟩ z.1), fr2 w hw hw0]
  have f53 : mI μ3 (64 * 3 + 1) r = q_i3 j := (fr3 5 (by omega) (by omega)).trans f5
  rw [wp_bn, wp_gI, f53]
  refine ⟨kr3, ?_⟩
  have M3 : q_CM μ3 b (sM s) := hM.fr md13.1 (by rw [l30]) rfl
  have L3 : q_CL μ3 b (sG s) := hL.fr md13.1 (fun a _ => by rw [l30]) rfl
  have O3 : q_CO μ3 b (sO s) := hO.fr md13.1 (fun a _ _ => by rw [l30]) rfl
  have D3 : q_CD μ3 b (sD s) := hD.fr md13.1 (by rw [l30]) rfl
  have N3 : q_CN μ3 b ((q_sN s).1, upd2 (q_sN s).2 i 0 2) := N2.fr md3.1 (by rw [l3]) rfl
  rw [wp_bn, xpR11 K3, wp_bn, wp_eq (c_lp K3 W3 D3.x hj), lp1, wp_bn, wp_gI, show mI μ3 (64 * 3 + 0) r = q_i3 gv from (fr3 2 (by omega) (by omega)).trans f2]
  refine ⟨kr3, ?_⟩
  rw [wp_bn, wp_gI, show mI μ3 (64 * 3 + 3) r = q_i3 hd from (fr3 1 (by omega) (by omega)).trans f1]
  refine ⟨kr3, ?_⟩
  rw [wp_bn, wp_gI, f53]
  refine ⟨kr3, ?_⟩
  rw [wp_bn, xpR11 K3, wp_bn]
  have hIL := hI.2.1 j hj
  refine q_wp_mono (c_exchange (p := lat (sD s) j) K3 W3 M3 L3 O3 hn hgv hhd hj (lots := 1) ⟨by decide, by decide⟩ (bd2 hI.1 hc) (by have := hIL.1; omega) (fun q hq => (hIL.2.1 q hq).2.1)) ?_
  rintro _ μ4 ⟨M4, L4, O4, C4⟩
  have K4 := C4.k0 K3 rfl
  have W4 := C4.1
  have nl : ∀ o, o ∈ q_LO → o ≠ 12 + 4 * j → q_lst μ4 (b + o) = q_lst μ3 (b + o) := fun o ho hne => C4.2.2.1 o ho (by simpa using hne)
  have R4 : CR μ4 b _ := R3.fr C4.2.1 (nl 35 (by decide) (by omega)) rfl
  have N4 : q_CN μ4 b _ := N3.fr C4.2.1 (nl 36 (by decide) (by omega)) rfl
  have D4 : q_CD μ4 b (sD s) := D3.fr C4.2.1 (nl 37 (by decide) (by omega)) rfl
  have hC34 := hC13.tr C4
  have nl0 : ∀ o, o ∈ q_LO → o ≠ 12 + 4 * j → q_lst μ4 (b + o) = q_lst μ (b + o) := fun o ho hne => hC34.2.2.1 o ho (by simpa using hne)
  have U4 : CU μ4 b (sU s) := hU.fr hC34.2.1 (nl0 5 (by decide) (by omega)) rfl
  have kr4 : mK μ4 r = 3 + 1 := C4.2.1.k kr3 (by omega)
  have kq4 : mK μ4 q = 5 + 1 := C4.2.1.k (show mK μ3 q = 6 by rw [md3.2.2.1]; exact kq2) (by omega)
  have rq4 : (q_lst μ4 (b + 35)).getD k 0 = q := by rw [nl0 35 (by decide) (by omega), hq]
  rw [wp_bn, xgP11_1 K4, wp_bn, xgI11 K4, show mI μ4 (64 * 11 + 8) b = q_i3 (dT (sD s)) from D4.1, wp_bn, wp_gI, show mI μ4 (64 * 3 + 1) r = q_i3 j by rw [C4.2.1.i _ rfl]; exact f53]
  refine ⟨kr4, ?_⟩
  have gr0 : mI μ4 (64 * 5 + 0) q = (sR s).2 k 0 := by
    have := (R4.2 k hk).2 0 (by omega); rw [rq4] at this; exact this.trans (by show upd2 (upd2 (sR s).2 k 3 1) k 2 (q_i3 hd) k 0 = _; unfold upd2; simp)
  have gr1 : mI μ4 (64 * 5 + 1) q = (sR s).2 k 1 := by
    have := (R4.2 k hk).2 1 (by omega); rw [rq4] at this; exact this.trans (by show upd2 (upd2 (sR s).2 k 3 1) k 2 (q_i3 hd) k 1 = _; unfold upd2; simp)
  rw [wp_bn, wp_gI, gr0]
  refine ⟨kq4, ?_⟩
  rw [wp_bn, wp_gI, gr1]
  refine ⟨kq4, ?_⟩
  rw [wp_bn, xpR7 K4, wp_bn]
  refine q_wp_mono (c_valueOf K4 W4 U4) ?_
  rintro df μ5 ⟨edf, md5⟩
  have K5 := md5.k0 K4
  obtain ⟨W5, l5⟩ := md5.wf W4 rfl
  have M5 := M4.fr md5.1 (by rw [l5]) rfl
  have vn : vN (mvM (sM s) gv hd j 1 (lat (sD s) j)) = vN (sM s) := by unfold mvM; split <;> rfl
  have er5 : ∀ a, mr μ1 b a = mr μ5 b a := fun a => by
    rw [← er1 a]; unfold mr; rw [l5, nl0 33 (by decide) (by omega)]
  rw [er5 hd, er5 gv]
  obtain ⟨⟨x1, _⟩, x2, _⟩ := M5.2 hd (by rw [vn]; exact hhd)
  obtain ⟨S, eS⟩ : ∃ S : Int64, S = (lat (sD s) j).toInt64 + df.toInt64 := ⟨_, rfl⟩
  rw [← eS]
  rw [wp_bn, wp_gL, show mL μ5 (64 * 1 + 2) (mr μ5 b hd) = vPd (mvM (sM s) gv hd j 1 (lat (sD s) j)) hd from x2]
  refine ⟨x1, ?_⟩
  rw [wp_bn, wp_wL]
  refine ⟨x1, ?_⟩
  obtain ⟨V, eV⟩ : ∃ V, V = mvM (sM s) gv hd j 1 (lat (sD s) j) := ⟨_, rfl⟩
  rw [← eV] at M5 vn ⊢
  obtain ⟨μ6, e6⟩ : ∃ μ6, μ6 = sL μ5 66 (mr μ5 b hd) (vPd V hd - S) := ⟨_, rfl⟩
  show q_wp _ (sL μ5 66 (mr μ5 b hd) (vPd V hd - S)) _
  rw [← e6]
  have md6 : Md [66] μ5 μ6 := by rw [e6]; exact Md.sL (by omega)
  have K6 := md6.k0 K5
  obtain ⟨W6, l6⟩ := md6.wf W5 rfl
  have M6 : q_CM μ6 b (mPaid V hd (vPd V hd - S)) := by rw [e6]; exact M5.paid K5 W5 (by rw [vn]; exact hhd) _
  have er6 : mr μ5 b gv = mr μ6 b gv := by unfold mr; rw [l6]
  rw [er6]
  obtain ⟨⟨y1, _⟩, y2, _⟩ := M6.2 gv (by show gv < vN V; rw [vn]; exact hgv)
  rw [wp_bn, wp_gL, show mL μ6 (64 * 1 + 2) (mr μ6 b gv) = vPd (mPaid V hd (vPd V hd - S)) gv from y2]
  refine ⟨y1, ?_⟩
  rw [wp_bn, wp_wL, wp_rt]
  refine ⟨y1, by rw [eF], ?_⟩
  have md7 : Md [66] μ6 (sL μ6 66 (mr μ6 b gv) (vPd (mPaid V hd (vPd V hd - S)) gv + S)) := Md.sL (by omega)
  have M7 : q_CM (sL μ6 66 (mr μ6 b gv) (vPd (mPaid V hd (vPd V hd - S)) gv + S)) b (sumM V hd gv S) := M6.paid K6 W6 (by show gv < vN V; rw [vn]; exact hgv) _
  have md57 := (md5.tr md6).tr md7
  have hC57 := md57.cs (b := b) W4 rfl
  have hC := hC34.tr hC57
  have l70 : ∀ o, o ∈ q_LO → q_lst (sL μ6 66 (mr μ6 b gv) (vPd (mPaid V hd (vPd V hd - S)) gv + S)) (b + o) = q_lst μ4 (b + o) := fun o ho => hC57.2.2.1 o ho (by simp)
  have nl7 : ∀ o, o ∈ q_LO → o ≠ 12 + 4 * j → q_lst (sL μ6 66 (mr μ6 b gv) (vPd (mPaid V hd (vPd V hd - S)) gv + S)) (b + o) = q_lst μ (b + o) := fun o ho hne => hC.2.2.1 o ho (by simpa using hne)
  rw [eF]
  refine cOK.of hK ⟨?_, L4.fr md57.1 (fun a ha => l70 _ (lgO_lo ha)) rfl, O4.fr md57.1 (fun a ha s' => l70 _ (sdO_lo ha s')) rfl, hT.fr hC.2.1 (nl7 34 (by decide) (by omega)) rfl, D4.fr md57.1 (l70 37 (by decide)) rfl, R4.fr md57.1 (l70 35 (by decide)) rfl, N4.fr md57.1 (l70 36 (by decide)) rfl, hU.fr hC.2.1 (nl7 5 (by decide) (by omega)) rfl, hP.fr hC.2.1 rfl⟩ hC rfl rfl (by omega) (by have := hIL.1; omega)
  show q_CM _ b (sumM (mvM (sM s) gv hd j 1 (lat (sD s) j)) hd gv _)
  rw [← eV, ← edf, ← eS]; exact M7
theorem r_keep {μ : Mem} {b c : Nat} {s : q_St} (hK : K0 μ b) (hA : q_AR μ b s) (hI : Iv s c) (hc : c ≤ 600) (p : Int32) : q_wp (F_X12_keep (b + 38) p) μ (fun x ν => x = (fKeep s p).1 ∧ rOK μ b (fKeep s p).2 0 ν) := by
  have hn := hI.1.1
  have hIN := hI.2.2.2.2.2.2.1
  have hnn := hIN.1
  have hnt := hI.2.2.2.1.1
  have hID := hI.2.2.2.2.1
  have hnr := hI.2.2.2.2.2.1.1
  unfold F_X12_keep F_X12_keep_L102
  refine r_start hK hA fun μ hK hA hz => ?_
  obtain ⟨hM, hL, hO, hT, hD, hR, hN, hU, hP⟩ := id hA
  obtain ⟨F, eF⟩ : ∃ F, F = fKeep s p := ⟨_, rfl⟩
  rw [← eF]
  unfold fKeep at eF
  rw [wp_bn, xpR12 hK, wp_bn, wp_eq (r_isHeld hK hN hnn), wp_ite]
  by_cases h : q_inR p (q_sN s).1 ∧ (q_sN s).2 (q_nat p) 0 = 1
  rotate_left
  · rw [if_neg h] at eF
    rw [if_neg h, if_neg (by decide), wp_rt, eF]; exact ⟨rfl, rOK.rf hA hz⟩
  obtain ⟨i, hi, rfl⟩ := inR_i3 h.1
  have en : q_nat (q_i3 i) = i := i3_toNat (by omega)
  rw [if_pos h] at eF
  rw [if_pos h, if_pos (by decide)]
  rw [en] at eF h
  obtain ⟨n1, n2, n3, n5, n6, n0⟩ := hIN.2 i hi
  obtain ⟨hd, hhd, eh⟩ := inR_i3 n1
  obtain ⟨gv, hgv, eg⟩ := inR_i3 n2
  obtain ⟨k, hk, ek⟩ := inR_i3 n3
  obtain ⟨j, hj, ej⟩ := inR_i3 n5
  have nh : q_nat (q_i3 hd) = hd := i3_toNat (by omega)
  have ng : q_nat (q_i3 gv) = gv := i3_toNat (by omega)
  have nk : q_nat (q_i3 k) = k := i3_toNat (by omega)
  have nj : q_nat (q_i3 j) = j := i3_toNat (by omega)
  rw [eh, eg, ek, ej, nh, ng, nk, nj] at eF
  have f1 : aI μ 344 (b + 62) (7 * i + 1) = q_i3 hd := by rw [← eh]; exact hN.2 i hi 1 (by omega)
  have f2 : aI μ 344 (b + 62) (7 * i + 2) = q_i3 gv := by rw [← eg]; exact hN.2 i hi 2 (by omega)
  have f3 : aI μ 344 (b + 62) (7 * i + 3) = q_i3 k := by rw [← ek]; exact hN.2 i hi 3 (by omega)
  have f5 : aI μ 344 (b + 62) (7 * i + 5) = q_i3 j := by rw [← ej]; exact hN.2 i hi 5 (by omega)
  rw [wp_bn, xgP12_33 hK, i3m7, i3p1, wp_bn, xl344 hK, i3_toNat (by omega), f1]
  refine ⟨inA_of (by omega) (by omega), ?_⟩
  rw [wp_bn, xgP12_33 hK, i3p2, wp_bn, xl344 hK, i3_toNat (by omega), f2]
  refine ⟨inA_of (by omega) (by omega), ?_⟩
  rw [wp_bn, xgP12_33 hK, i3p3, wp_bn, xl344 hK, i3_toNat (by omega), f3]
  refine ⟨inA_of (by omega) (by omega), ?_⟩
  rw [wp_bn, xgP12_33 hK, i3p5, wp_bn, xl344 hK, i3_toNat (by omega), f5]
  refine ⟨inA_of (by omega) (by omega), ?_⟩
  rw [wp_bn, xgP12_31 hK, i3m4, i3p3, wp_bn, xs336 hK, i3_toNat (by omega)]
  refine ⟨inA_of (by omega) (by omega), ?_⟩
  have R1 := RX.set (f := 800) (k := 336) (o := 61) (W := 4) (x := 1) hR hk (show 3 < 4 by omega)
  have md1 : Md [2336] μ (tI μ 336 (b + 61) (4 * k + 3) 1) := Md.tI (k := 336) (kr hK 61 335 (by decide))
  obtain ⟨μ1, e1⟩ : ∃ μ1, μ1 = tI μ 336 (b + 61) (4 * k + 3) 1 := ⟨_, rfl⟩
  rw [← e1] at R1 md1 ⊢
  have K1 := md1.k0 hK
  have M1 := hM.fr md1.1 rfl
  have N1 := hN.fr md1.1 rfl
  have ph := (M1.2 hd (by omega)).2.2.2.2 j hj
  have pg := (M1.2 gv (by omega)).2.2.2.2 j hj
  have void : (vPs (sM s) hd j ≤ 0 ∨ 0 ≤ vPs (sM s) gv j) → q_wp (bn (gP 12 33 (some (b + 38))) fun v32 => bn (stI 344 v32 (q_i3 (7 * i)) (3 : Int32)) fun _ => rt (0 : Int32)) μ1 (fun x ν => x = F.1 ∧ rOK μ b F.2 0 ν) := by
    intro hv
    unfold fKeepI at eF
    rw [if_pos hv] at eF
    rw [wp_bn, xgP12_33 K1, wp_bn, xs344 K1, i3_toNat (by omega), wp_rt, eF]
    refine ⟨inA_of (by omega) (by omega), rfl, ?_⟩
    have N2 := RX.set (f := 802) (k := 344) (o := 62) (W := 7) (x := 3) N1 hi (show 0 < 7 by omega)
    have md2 : Md [2344] μ1 (tI μ1 344 (b + 62) (7 * i) 3) := Md.tI (k := 344) (kr K1 62 343 (by decide))
    have hC := md1.tr md2
    exact rOK.of ⟨hM.fr hC.1 rfl, hL.fr hC.1 rfl, hO.fr hC.1 rfl, hT.fr hC.1 rfl, hD.fr hC.1 rfl, RR.fr R1 md2.1 rfl, N2, hU.fr hC.1 rfl, hP.fr hC.1 rfl⟩ hC rfl (by rw [hC.1.i 803 rfl]; exact hz)
  rw [wp_bn, xgP12_14 K1, i3m6, i3_add, wp_bn, xl232 K1, i3_toNat (by omega), ph]
  refine ⟨inA_of (by omega) (by omega), ?_⟩
  rw [wp_ite]
  by_cases hv1 : vPs (sM s) hd j ≤ 0
  · rw [if_pos hv1]; exact void (Or.inl hv1)
  rw [if_neg hv1, wp_bn, xgP12_14 K1, i3m6, i3_add, wp_bn, xl232 K1, i3_toNat (by omega), pg]
  refine ⟨inA_of (by omega) (by omega), ?_⟩
  rw [wp_ite]
  by_cases hv2 : vPs (sM s) gv j < 0
  rotate_left
  · rw [if_neg hv2]; exact void (Or.inr (by rw [Int32.le_iff_toInt_le]; rw [Int32.lt_iff_toInt_lt] at hv2; omega))
  unfold fKeepI at eF
  rw [if_neg (fun z => z.elim hv1 (fun w => by rw [Int32.le_iff_toInt_le] at w; rw [Int32.lt_iff_toInt_lt] at hv2; omega))] at eF
  rw [if_pos hv2, wp_bn, xpR12 K1, wp_bn, wp_eq (r_latest K1 (hD.fr md1.1 rfl) hID hj), wp_bn, xpR12 K1, wp_bn]
  have hIL := hI.2.1
  refine q_wp_mono (r_move (nt := 0) (c := 0) (p := lat (sD s) j) K1 M1 (hL.fr md1.1 rfl) (show gv < 12 by omega) (show hd < 12 by omega) hj (lots := 1) ⟨by decide, by decide⟩ (fun a ha => by have := (hIL a ha).1; omega) (fun q hq => ((hIL j hj).2.1 q hq).2.1)) ?_
  rintro _ μ2 ⟨M2, L2, md2⟩
  have K2 := md2.k0 K1
  have R2 : RR μ2 b _ := RR.fr R1 md2.1 rfl
  have g0 : aI μ2 336 (b + 61) (4 * k) = (sR s).2 k 0 := (R2.2 k hk 0 (by omega)).trans (by show upd2 (sR s).2 k 3 1 k 0 = _; unfold upd2; simp)
  have g1 : aI μ2 336 (b + 61) (4 * k + 1) = (sR s).2 k 1 := (R2.2 k hk 1 (by omega)).trans (by show upd2 (sR s).2 k 3 1 k 1 = _; unfold upd2; simp)
  have md12 := md1.tr md2
  rw [wp_bn, xgI12 K2, show mI μ2 (64 * 12 + 24) (b + 38) = q_i3 (dT (sD s)) by rw [md12.1.i _ rfl]; exact hD.1, wp_bn, xgP12_31 K2, wp_bn, xl336 K2, i3_toNat (by omega), g0]
  refine ⟨inA_of (by omega) (by omega), ?_⟩
  rw [wp_bn, xgP12_31 K2, i3p1, wp_bn, xl336 K2, i3_toNat (by omega), g1]
  refine ⟨inA_of (by omega) (by omega), ?_⟩
  rw [wp_bn, xpR12 K2, wp_bn]
  refine q_wp_mono (r_ruleOf K2 (hU.fr md12.1 rfl)) ?_
  rintro df μ3 ⟨edf, md3⟩
  have K3 := md3.k0 K2
  obtain ⟨V, eV⟩ : ∃ V, V = mvM (sM s) gv hd j 1 (lat (sD s) j) := ⟨_, rfl⟩
  rw [← eV] at M2
  have M3 := M2.fr md3.1 rfl
  obtain ⟨S, eS⟩ : ∃ S : Int64, S = (lat (sD s) j).toInt64 + df.toInt64 := ⟨_, rfl⟩
  rw [← eS, wp_bn, xgP12_11 K3, wp_bn, xl209 K3, i3_toNat (by omega), (M3.2 hd (by omega)).1]
  refine ⟨inA_of (by omega) (by omega), ?_⟩
  rw [wp_bn, xs209 K3, i3_toNat (by omega)]
  refine ⟨inA_of (by omega) (by omega), ?_⟩
  have M4 := M3.paid (i := hd) (vPd V hd - S)
  have md4 : Md [2209] μ3 (tL μ3 209 (b + 45) hd (vPd V hd - S)) := Md.tL (k := 209) (kr K3 45 208 (by decide))
  obtain ⟨μ4, e4⟩ : ∃ μ4, μ4 = tL μ3 209 (b + 45) hd (vPd V hd - S) := ⟨_, rfl⟩
  rw [← e4] at M4 md4 ⊢
  have K4 := md4.k0 K3
  rw [wp_bn, xgP12_11 K4, wp_bn, xl209 K4, i3_toNat (by omega), (M4.2 gv (by omega)).1]
  refine ⟨inA_of (by omega) (by omega), ?_⟩
  rw [wp_bn, xs209 K4, i3_toNat (by omega)]
  refine ⟨inA_of (by omega) (by omega), ?_⟩
  have M5 := M4.paid (i := gv) (vPd (mPaid V hd (vPd V hd - S)) gv + S)
  have md5 : Md [2209] μ4 (tL μ4 209 (b + 45) gv (vPd (mPaid V hd (vPd V hd - S)) gv + S)) := Md.tL (k := 209) (kr K4 45 208 (by decide))
  obtain ⟨μ5, e5⟩ : ∃ μ5, μ5 = tL μ4 209 (b + 45) gv (vPd (mPaid V hd (vPd V hd - S)) gv + S) := ⟨_, rfl⟩
  rw [← e5] at M5 md5 ⊢
  have K5 := md5.k0 K4
  have md35 := (md3.tr md4).tr md5
  have R5 : RR μ5 b _ := RR.fr R2 md35.1 rfl
  rw [wp_bn, xgP12_31 K5, i3p2, wp_bn, xs336 K5, i3_toNat (by omega)]
  refine ⟨inA_of (by omega) (by omega), ?_⟩
  have R6 := RX.set (f := 800) (k := 336) (o := 61) (W := 4) (x := q_i3 hd) R5 hk (show 2 < 4 by omega)
  have md6 : Md [2336] μ5 (tI μ5 336 (b + 61) (4 * k + 2) (q_i3 hd)) := Md.tI (k := 336) (kr K5 61 335 (by decide))
  obtain ⟨μ6, e6⟩ : ∃ μ6, μ6 = tI μ5 336 (b + 61) (4 * k + 2) (q_i3 hd) := ⟨_, rfl⟩
  rw [← e6] at R6 md6 ⊢
  have K6 := md6.k0 K5
  have md16 := (md12.tr md35).tr md6
  have N6 := hN.fr md16.1 rfl
  rw [wp_bn, xgP12_33 K6, wp_bn, xs344 K6, i3_toNat (by omega), wp_rt]
  refine ⟨inA_of (by omega) (by omega), by rw [eF], ?_⟩
  have N7 := RX.set (f := 802) (k := 344) (o := 62) (W := 7) (x := 2) N6 hi (show 0 < 7 by omega)
  have md7 : Md [2344] μ6 (tI μ6 344 (b + 62) (7 * i) 2) := Md.tI (k := 344) (kr K6 62 343 (by decide))
  have hC := md16.tr md7
  rw [eF]
  refine rOK.of ⟨?_, q_RL.fr L2 ((md35.tr md6).tr md7).1 rfl, hO.fr hC.1 rfl, hT.fr hC.1 rfl, hD.fr hC.1 rfl, RR.fr R6 md7.1 rfl, N7, hU.fr hC.1 rfl, hP.fr hC.1 rfl⟩ hC rfl (by rw [hC.1.i 803 rfl]; exact hz)
  show q_RM _ b (sumM (mvM (sM s) gv hd j 1 (lat (sD s) j)) hd gv _)
  rw [← eV, ← edf, ← eS]
  exact q_RM.fr M5 (md6.tr md7).1 rfl

theorem perm_sum {l m : List Int} (h : l.Perm m) : l.sum = m.sum := by
  induction h with
  | nil => rfl
  | cons x _ ih => simp only [List.sum_cons, ih]
  | swap x y l => simp only [List.sum_cons]; omega
  | trans _ _ h1 h2 => exact h1.trans h2
def wS (os : List Od) (m s t : Int32) : Int := ((os.filter fun x => oM x == m && (oT x == t && oB x == s)).map fun x => (oL x).toInt).sum
theorem wS_side (os : List Od) (m s t : Int32) : (((q_side os t s).filter fun x => oM x == m).map fun x => (oL x).toInt).sum = wS os m s t := by
  unfold wS q_side
  refine perm_sum (List.Perm.map _ ?_)
  refine ((List.mergeSort_perm _ _).filter _).trans ?_
  rw [List.filter_filter]
def q_pS (l : List Od) (p : Od → Bool) (k : Nat) : Int := (((l.take k).filter p).map fun x => (oL x).toInt).sum
theorem pS_succ {l : List Od} {p : Od → Bool} {k : Nat} (hk : k < l.length) : q_pS l p (k + 1) = q_pS l p k + if p (l.getD k q_o0) then (oL (l.getD k q_o0)).toInt else 0 := by
  unfold q_pS
  rw [List.take_succ, List.getElem?_eq_getElem hk, getD_o hk]
  simp only [Option.toList_some, List.filter_append, List.map_append, List.sum_append]
  by_cases h : p l[k] = true
  · simp [h]
  · simp [h]
theorem pS_bd {l : List Od} {p : Od → Bool} (h : ∀ x, x ∈ l → 0 < (oL x).toInt ∧ (oL x).toInt ≤ 50) : ∀ k, k ≤ l.length → 0 ≤ q_pS l p k ∧ q_pS l p k ≤ 50 * k
  | 0, _ => by unfold q_pS; simp
  | k + 1, hk => by
    rw [pS_succ (by omega)]
    have ih := pS_bd (p := p) h k (by omega)
    have := h (l.getD k q_o0) (by rw [getD_o (by omega)]; exact List.getElem_mem _)
    split <;> omega
theorem add_bd {x y : Int32} (h : -2000000000 ≤ x.toInt + y.toInt ∧ x.toInt + y.toInt ≤ 2000000000) : (x + y).toInt = x.toInt + y.toInt := by
  rw [Int32.toInt_add, Int.bmod_eq_of_le] <;> omega
theorem add_bd64 {x y : Int64} (h : -2000000000 ≤ x.toInt + y.toInt ∧ x.toInt + y.toInt ≤ 2000000000) : (x + y).toInt = x.toInt + y.toInt := by
  rw [Int64.toInt_add, Int.bmod_eq_of_le] <;> omega
theorem c_lotsWaiting {μ : Mem} {b j n c : Nat} {v : q_VO} {s m : Int32} (hK : K0 μ b) (hW : WF μ) (hO : q_CO μ b v) (hI : IO' v n c) (hj : j < 6) (hs : s = 0 ∨ s = 1) : ∃ x : Int32, F_X2_lotsWaiting (b + (9 + 4 * j)) s m μ = some (x, μ) ∧ x.toInt = wS v.1 m s (q_i3 j) ∧ 0 ≤ x.toInt ∧ x.toInt ≤ 6000 := by
  have k := hK.lo (sdO_lo hj s)
  have hl := co_len hO hj hs
  have hle := side_le v.1 (q_i3 j) s
  have hl120 := hI.1
  have hlots : ∀ x, x ∈ q_side v.1 (q_i3 j) s → 0 < (oL x).toInt ∧ (oL x).toInt ≤ 50 := fun x hx => by have := hI.2.2 x (side_mem.mp hx).1; exact ⟨this.2.1, this.2.2.1⟩
  have hbd := pS_bd (p := fun x => oM x == m) hlots
  have hw : q_wp (F_X2_lotsWaiting (b + (9 + 4 * j)) s m) μ (fun x ν => ν = μ ∧ x.toInt = q_pS (q_side v.1 (q_i3 j) s) (fun x => oM x == m) (q_side v.1 (q_i3 j) s).length) := by
    unfold F_X2_lotsWaiting
    rw [wp_bn, xpR2 hK hj, wp_bn, wp_eq (c_side hK hj hs)]
    refine wp_loop (σ := Int32) (fun f q x => F_X2_lotsWaiting_L12 f m (some (b + sdO j s)) x (q_i3 q)) (q_side v.1 (q_i3 j) s).length (fun q x ν => ν = μ ∧ x.toInt = q_pS (q_side v.1 (q_i3 j) s) (fun x => oM x == m) q) _ ?_ ?_ FU 0 0 μ (by omega) (by show _ < 100000; omega) ⟨rfl, rfl⟩
    · rintro f x ν ⟨rfl, hx⟩
      show q_wp (F_X2_lotsWaiting_L12 (f + 1) m (some (b + sdO j s)) x (q_i3 (q_side v.1 (q_i3 j) s).length)) ν _
      unfold F_X2_lotsWaiting_L12
      simp (maxSteps := 2000000) (disch := first | assumption | omega | (simp only [K0_sI, K0_sL, K0_tI, K0_tL, K0_nE]; assumption)) only [wp_bn, wp_pRc, k, true_and, wp_eq (ls_size hW k), hl, wp_ite, i3m2, i3m4, i3m5, i3m6, i3m7, i3m12, i3m60, i3m72, i3m1600, i3r6, i3p1, i3p2, i3p3, i3p4, i3p5, i3p6, i3p7, i3p8, i3p9, i3p20, i3_add, i3_mul, i3_toNat, inA_i3, i3_lt, i3_le, i3_eq, Nat.le_refl, if_true, wp_rt]
      exact hx
    · rintro f q x ν hq ⟨rfl, hx⟩ ih
      show q_wp (F_X2_lotsWaiting_L12 (f + 1) m (some (b + sdO j s)) x (q_i3 q)) ν _
      unfold F_X2_lotsWaiting_L12 F_X2_lotsWaiting_L55
      obtain ⟨a1, a2, a3⟩ := co_at hO hj hs hq
      have a4 : mI ν 576 ((q_lst ν (b + sdO j s)).getD q 0) = oM ((q_side v.1 (q_i3 j) s).getD q q_o0) := by rw [← a1]; rfl
      have a5 : mI ν 579 ((q_lst ν (b + sdO j s)).getD q 0) = oL ((q_side v.1 (q_i3 j) s).getD q q_o0) := by rw [← a1]; rfl
      have hnle : ¬ (q_side v.1 (q_i3 j) s).length ≤ q := by omega
      simp (maxSteps := 2000000) (disch := first | assumption | omega | (simp only [K0_sI, K0_sL, K0_tI, K0_tL, K0_nE]; assumption)) only [wp_bn, wp_pRc, k, true_and, wp_eq (ls_size hW k), hl, wp_ite, i3m2, i3m4, i3m5, i3m6, i3m7, i3m12, i3m60, i3m72, i3m1600, i3r6, i3p1, i3p2, i3p3, i3p4, i3p5, i3p6, i3p7, i3p8, i3p9, i3p20, i3_add, i3_mul, i3_toNat, inA_i3, i3_lt, i3_le, i3_eq, hnle, if_false, wp_eq (ls_get hW k (show q < (q_lst ν (b + sdO j s)).length by omega)), wp_cst, a2, wp_gI, Nat.reduceMul, Nat.reduceAdd, a4, a5]
      have b0 := hbd q (by omega)
      have b1 := hlots ((q_side v.1 (q_i3 j) s).getD q q_o0) (by rw [getD_o hq]; exact List.getElem_mem _)
      by_cases e : oM ((q_side v.1 (q_i3 j) s).getD q q_o0) = m
      · rw [if_neg (fun w => w e)]
        refine ih _ ν ⟨rfl, ?_⟩
        rw [pS_succ hq, add_bd (by omega), hx]
        have : (oM ((q_side v.1 (q_i3 j) s).getD q q_o0) == m) = true := by simpa using e
        rw [if_pos this]
      · rw [if_pos e]
        refine ih _ ν ⟨rfl, ?_⟩
        have : ¬ (oM ((q_side v.1 (q_i3 j) s).getD q q_o0) == m) = true := by simpa using e
        rw [pS_succ hq, if_neg this, ← hx]; simp
  obtain ⟨x, μ', h1, rfl, h2⟩ := hw
  have := hbd (q_side v.1 (q_i3 j) s).length (Nat.le_refl _)
  refine ⟨x, h1, ?_, by omega, by omega⟩
  rw [h2, ← wS_side]; unfold q_pS; rw [List.take_length]
def heldI (s : q_St) (i j : Nat) (buy : Int32) : Int := if buy = 0 then - (vPs (sM s) i j).toInt else (vPs (sM s) i j).toInt
def rsnIn (s : q_St) (i : Nat) (buy : Int32) (j : Nat) (price lots : Int32) : Int32 :=
  if vFa (sM s) i ≠ 0 ∨ (sG s).2 j ≠ 0 then 2
  else if lat (sD s) j ≠ -1 ∧ ¬ absI (price - lat (sD s) j) ≤ q_rv (sU s) 0 (q_i3 (dT (sD s))) (q_i3 j) (lat (sD s) j) 0 0 0 then 3
  else if ¬ heldI s i j buy + wS (sO s).1 (q_i3 i) buy (q_i3 j) + lots.toInt ≤ (q_rv (sU s) 3 (q_i3 (dT (sD s))) (q_i3 j) 0 lots 0 0).toInt then 4
  else if 120 ≤ (sO s).1.length ∨ 700 ≤ (sT s).1 then 5 else 0
abbrev okO (s : q_St) (m month price lots : Int32) : Prop := q_inR m (vN (sM s)) ∧ q_inR month 6 ∧ (1 ≤ lots.toInt ∧ lots.toInt ≤ 50) ∧ (1 ≤ price.toInt ∧ price.toInt ≤ 10000)
def rsn (s : q_St) (m buy month price lots : Int32) : Int32 := if okO s m month price lots then rsnIn s (q_nat m) buy (q_nat month) price lots else 1
theorem c_isTooFar {μ : Mem} {b j n : Nat} {vd : VD} {ru : List q_Ru} {price : Int32} (hK : K0 μ b) (hW : WF μ) (hD : q_CD μ b vd) (hU : CU μ b ru) (hID : ID vd n) (hj : j < 6) : q_wp (F_X11_isTooFar b (q_i3 j) price) μ (fun r ν => r = (if lat vd j ≠ -1 ∧ ¬ absI (price - lat vd j) ≤ q_rv ru 0 (q_i3 (dT vd)) (q_i3 j) (lat vd j) 0 0 0 then 1 else 0) ∧ Md [2136, 451, 2144] μ ν) := by
  unfold F_X11_isTooFar
  rw [wp_bn, xpR11 hK, wp_bn, wp_eq (c_lp hK hW hD.x hj), wp_ite]
  have l0 := lpv0 hID hj
  by_cases h : lat vd j = -1
  · rw [if_pos (l0.mpr h), wp_rz, if_neg (fun z => z.1 h)]; exact ⟨Or.inl rfl, rfl, (Md.rf μ).wk rfl⟩
  · have hl : lpv vd j = lat vd j := by rw [lpv_lat hID hj]; unfold pz; rw [if_neg h]
    rw [if_neg (fun z => h (l0.mp z)), wp_bn, xgP11_1 hK, wp_bn, xgI11 hK, show mI μ (64 * 11 + 8) b = q_i3 (dT vd) from hD.1, wp_bn, xpR7 hK, wp_bn, hl]
    refine q_wp_mono (c_valueOf hK hW hU) ?_
    rintro r ν ⟨rfl, hm⟩
    rw [wp_ite]
    show if absI (price - lat vd j) ≤ _ then _ else _
    by_cases h2 : absI (price - lat vd j) ≤ q_rv ru 0 (q_i3 (dT vd)) (q_i3 j) (lat vd j) 0 0 0
    · rw [if_pos h2, wp_rz, if_neg (fun z => z.2 h2)]; exact ⟨Or.inl rfl, rfl, hm⟩
    · rw [if_neg h2, wp_rz, if_pos ⟨h, h2⟩]; exact ⟨Or.inr rfl, rfl, hm⟩
theorem c_reason {μ : Mem} {b c : Nat} {s : q_St} (hK : K0 μ b) (hW : WF μ) (hA : q_AC μ b s) (hI : Iv s c) (hc : c ≤ 600) (m buy month price lots : Int32) (hbuy : buy = 0 ∨ buy = 1) : q_wp (F_X11_reasonAgainst b m buy month price lots) μ (fun r ν => r = rsn s m buy month price lots ∧ Md [2136, 451, 2144] μ ν) := by
  obtain ⟨hM, hL, hO, hT, hD, hR, hN, hU, hP⟩ := id hA
  have hn := hI.1.1
  have hID := hI.2.2.2.2.1
  have hnt := hI.2.2.2.1.1
  have hol := hI.2.2.1.1
  have m0 : Md [2136, 451, 2144] μ μ := (Md.rf μ).wk rfl
  obtain ⟨F, eF⟩ : ∃ F, F = rsn s m buy month price lots := ⟨_, rfl⟩
  rw [← eF]
  unfold rsn at eF
  have no : ¬ okO s m month price lots → (1 : Int32) = F ∧ Md [2136, 451, 2144] μ μ := by
    intro h; rw [if_neg h] at eF; exact ⟨eF.symm, m0⟩
  unfold F_X11_reasonAgainst
  rw [wp_bn, xpR11 hK, wp_bn, wp_eq (c_memberOf hK hW hM m), wp_ite]
  by_cases h1 : q_inR m (vN (sM s))
  rotate_left
  · rw [if_neg h1, if_pos rfl, wp_rt]; exact no fun z => h1 z.1
  rw [if_pos h1, if_neg (by simp), wp_bn, wp_eq c_isMonth, wp_ite]
  by_cases h2 : q_inR month 6
  rotate_left
  · rw [if_neg h2, if_pos rfl, wp_rt]; exact no fun z => h2 z.2.1
  have e1 : (1 : Int32).toInt = 1 := rfl
  have e50 : (50 : Int32).toInt = 50 := rfl
  rw [if_pos h2, if_neg (by decide), wp_ite]
  by_cases h3 : lots < 1
  · rw [if_pos h3, wp_rt]; rw [Int32.lt_iff_toInt_lt, e1] at h3; exact no fun z => by have := z.2.2.1; omega
  rw [if_neg h3, wp_ite]
  by_cases h4 : 50 < lots
  · rw [if_pos h4, wp_rt]; rw [Int32.lt_iff_toInt_lt, e50] at h4; exact no fun z => by have := z.2.2.1; omega
  rw [if_neg h4, wp_bn, wp_eq c_isPrice, wp_ite]
  rw [Int32.lt_iff_toInt_lt, e1] at h3
  rw [Int32.lt_iff_toInt_lt, e50] at h4
  by_cases h5 : 1 ≤ price.toInt ∧ price.toInt ≤ 10000
  rotate_left
  · rw [if_neg h5, if_neg (by decide), wp_rt]; exact no fun z => h5 z.2.2.2
  rw [if_pos ⟨h1, h2, by omega, h5⟩] at eF
  rw [if_pos h5, if_pos (by decide)]
  obtain ⟨i, hi, rfl⟩ := inR_i3 h1
  obtain ⟨j, hj, rfl⟩ := inR_i3 h2
  have ni : q_nat (q_i3 i) = i := i3_toNat (by omega)
  have nj : q_nat (q_i3 j) = j := i3_toNat (by omega)
  rw [ni, nj] at eF
  unfold rsnIn at eF
  obtain ⟨⟨m1, m2, m3, m4⟩, p1, p2, p3, p4, p5⟩ := hM.2 i hi
  rw [i3_toNat (show i < 2147483648 by omega), wp_bn, wp_gI, show mI μ (64 * 1 + 4) (mr μ b i) = vFa (sM s) i from p3]
  refine ⟨m1, ?_⟩
  rw [wp_ite]
  by_cases h6 : vFa (sM s) i = 0
  rotate_left
  · rw [if_pos h6, wp_rt, eF, if_pos (Or.inl h6)]; exact ⟨rfl, m0⟩
  rw [if_neg (fun z => z h6), wp_bn, xgP11_2 hK, wp_bn, xmo hK hj, wp_bn, xgI2 hK hj, show mI μ (64 * 2 + 3) (b + (9 + 4 * j)) = (sG s).2 j from (hL j hj).2.2, wp_ite]
  by_cases h7 : (sG s).2 j = 0
  rotate_left
  · rw [if_neg h7, wp_rt, eF, if_pos (Or.inr h7)]; exact ⟨rfl, m0⟩
  rw [if_neg (fun z => z.elim (fun w => w h6) (fun w => w h7))] at eF
  rw [if_pos h7, wp_bn, xpR11 hK, wp_bn]
  refine q_wp_mono (c_isTooFar hK hW hD hU hID hj) ?_
  rintro r8 μ1 ⟨rfl, md1⟩
  rw [wp_ite]
  by_cases h8 : lat (sD s) j ≠ -1 ∧ ¬ absI (price - lat (sD s) j) ≤ q_rv (sU s) 0 (q_i3 (dT (sD s))) (q_i3 j) (lat (sD s) j) 0 0 0
  · rw [if_pos h8] at eF; rw [if_pos h8, if_neg (by decide), wp_rt]; exact ⟨eF.symm, md1⟩
  rw [if_neg h8] at eF
  rw [if_neg h8, if_pos rfl]
  have K1 := md1.k0 hK
  obtain ⟨W1, l1⟩ := md1.wf hW rfl
  have A1 : q_AC μ1 b s := hA.md md1 hW rfl rfl
  obtain ⟨hM1, hL1, hO1, hT1, hD1, hR1, hN1, hU1, hP1⟩ := id A1
  have er1 : mr μ b i = mr μ1 b i := by unfold mr; rw [l1]
  rw [er1]
  obtain ⟨⟨m1, m2, m3, m4⟩, p1, p2, p3, p4, p5⟩ := hM1.2 i hi
  have hbd := hI.1.2.2.2.1 i (by omega) j hj
  have L98 : ∀ y : Int32, y.toInt = heldI s i j buy → q_wp (F_X11_reasonAgainst_L98 b (q_i3 i) buy (q_i3 j) lots y) μ1 (fun r ν => r = F ∧ Md [2136, 451, 2144] μ ν) := by
    intro y hy
    unfold F_X11_reasonAgainst_L98 F_X11_reasonAgainst_L166
    have hyb : -3600000 ≤ y.toInt ∧ y.toInt ≤ 3600000 := by rw [hy]; unfold heldI; split <;> omega
    obtain ⟨x, ex, hx, hx0, hx1⟩ := c_lotsWaiting (m := q_i3 i) K1 W1 hO1 hI.2.2.1 hj hbuy
    rw [wp_bn, xgP11_2 K1, wp_bn, xmo K1 hj, wp_bn, xpR2 K1 hj, wp_bn, wp_eq ex, wp_bn, xgP11_1 K1, wp_bn, xgI11 K1, show mI μ1 (64 * 11 + 8) b = q_i3 (dT (sD s)) from hD1.1, wp_bn, xpR7 K1, wp_bn]
    refine q_wp_mono (c_valueOf K1 W1 hU1) ?_
    rintro r9 μ2 ⟨rfl, md2⟩
    have md12 : Md [2136, 451, 2144] μ μ2 := (md1.tr md2).wk rfl
    have K2 := md2.k0 K1
    have A2 : q_AC μ2 b s := A1.md md2 W1 rfl rfl
    obtain ⟨W2, l2⟩ := md2.wf W1 rfl
    have es : (y + x + lots).toInt = heldI s i j buy + wS (sO s).1 (q_i3 i) buy (q_i3 j) + lots.toInt := by
      rw [add_bd (by rw [add_bd (by omega)]; omega), add_bd (by omega), hy, hx]
    rw [wp_ite]
    have e4 : y + x + lots ≤ q_rv (sU s) 3 (q_i3 (dT (sD s))) (q_i3 j) 0 lots 0 0 ↔ heldI s i j buy + wS (sO s).1 (q_i3 i) buy (q_i3 j) + lots.toInt ≤ (q_rv (sU s) 3 (q_i3 (dT (sD s))) (q_i3 j) 0 lots 0 0).toInt := by
      rw [Int32.le_iff_toInt_le, es]
    by_cases h9 : heldI s i j buy + wS (sO s).1 (q_i3 i) buy (q_i3 j) + lots.toInt ≤ (q_rv (sU s) 3 (q_i3 (dT (sD s))) (q_i3 j) 0 lots 0 0).toInt
    rotate_left
    · rw [if_pos h9] at eF; rw [if_neg (fun z => h9 (e4.mp z)), wp_rt]; exact ⟨eF.symm, md12⟩
    rw [if_neg (fun z => z h9)] at eF
    rw [if_pos (e4.mpr h9), wp_bn, xpR11 K2, wp_bn, wp_eq (c_allWaiting K2 W2 A2.2.2.1), wp_ite]
    have hle : (120 : Int32) ≤ q_i3 (sO s).1.length ↔ 120 ≤ (sO s).1.length := i3_le (a := 120) (by omega) (by omega)
    by_cases h10 : 120 ≤ (sO s).1.length
    · rw [if_pos (Or.inl h10)] at eF; rw [if_pos (hle.mpr h10), wp_rt]; exact ⟨eF.symm, md12⟩
    rw [if_neg (fun z => h10 (hle.mp z)), wp_bn, xgP11_4 K2, wp_bn, xpL_34 K2, wp_bn, wp_eq (ls_size W2 (K2.k 34 14 (by decide))), A2.2.2.2.1.1, wp_ite]
    have hlt : q_i3 (sT s).1 < 700 ↔ (sT s).1 < 700 := i3_lt (b := 700) (by omega) (by omega)
    by_cases h11 : (sT s).1 < 700
    · rw [if_neg (by omega)] at eF; rw [if_pos (hlt.mpr h11), wp_rt]; exact ⟨eF.symm, md12⟩
    · rw [if_pos (Or.inr (by omega))] at eF; rw [if_neg (fun z => h11 (hlt.mp z)), wp_rt]; exact ⟨eF.symm, md12⟩
  rw [wp_ite]
  rcases hbuy with rfl | rfl
  · rw [if_pos rfl, wp_bn, wp_gP, show mP μ1 (64 * 1 + 0) (mr μ1 b i) = some (mr μ1 b i + 1) from m2]
    refine ⟨m1, ?_⟩
    rw [wp_bn, wp_lI, m4, inA_i3 (by omega), i3_toNat (by omega), p5 j hj]
    exact ⟨m3, hj, L98 _ (by unfold heldI; rw [if_pos rfl, neg_bd (by omega)])⟩
  · rw [if_neg (by decide), wp_bn, wp_gP, show mP μ1 (64 * 1 + 0) (mr μ1 b i) = some (mr μ1 b i + 1) from m2]
    refine ⟨m1, ?_⟩
    rw [wp_bn, wp_lI, m4, inA_i3 (by omega), i3_toNat (by omega), p5 j hj]
    exact ⟨m3, hj, L98 _ (by unfold heldI; rw [if_neg (by decide)])⟩

theorem r_reason {μ : Mem} {b c : Nat} {s : q_St} (hK : K0 μ b) (hA : q_AR μ b s) (hI : Iv s c) (hc : c ≤ 600) (m buy month price lots : Int32) (hbuy : buy = 0 ∨ buy = 1) : q_wp (F_X12_reason (b + 38) m buy month price lots) μ (fun r ν => r = rsn s m buy month price lots ∧ Md [2352, 812, 813] μ ν) := by
  obtain ⟨hM, hL, hO, hT, hD, hR, hN, hU, hP⟩ := id hA
  have hn := hI.1.1
  have hID := hI.2.2.2.2.1
  have hnt := hI.2.2.2.1.1
  have hol := hI.2.2.1.1
  have m0 : Md [2352, 812, 813] μ μ := (Md.rf μ).wk rfl
  obtain ⟨F, eF⟩ : ∃ F, F = rsn s m buy month price lots := ⟨_, rfl⟩
  rw [← eF]
  unfold rsn at eF
  have no : ¬ okO s m month price lots → (1 : Int32) = F ∧ Md [2352, 812, 813] μ μ := by
    intro h; rw [if_neg h] at eF; exact ⟨eF.symm, m0⟩
  unfold F_X12_reason
  rw [wp_bn, xpR12 hK, wp_bn, wp_eq (r_isMember hK hM hn m), wp_ite]
  by_cases h1 : q_inR m (vN (sM s))
  rotate_left
  · rw [if_neg h1, if_pos rfl, wp_rt]; exact no fun z => h1 z.1
  rw [if_pos h1, if_neg (by decide), wp_bn, wp_eq r_isMonth, wp_ite]
  by_cases h2 : q_inR month 6
  rotate_left
  · rw [if_neg h2, if_pos rfl, wp_rt]; exact no fun z => h2 z.2.1
  rw [if_pos h2, if_neg (by decide), wp_bn, wp_eq in_wp, wp_ite, Int32.toInt_toInt64, show (1 : Int64).toInt = 1 from rfl, show (50 : Int64).toInt = 50 from rfl]
  by_cases h3 : 1 ≤ lots.toInt ∧ lots.toInt ≤ 50
  rotate_left
  · rw [if_neg h3, if_pos rfl, wp_rt]; exact no fun z => h3 z.2.2.1
  rw [if_pos h3, if_neg (by decide), wp_bn, wp_eq in_wp, wp_ite, Int32.toInt_toInt64, show (1 : Int64).toInt = 1 from rfl, show (10000 : Int64).toInt = 10000 from rfl]
  by_cases h5 : 1 ≤ price.toInt ∧ price.toInt ≤ 10000
  rotate_left
  · rw [if_neg h5, if_neg (by decide), wp_rt]; exact no fun z => h5 z.2.2.2
  rw [if_pos ⟨h1, h2, h3, h5⟩] at eF
  rw [if_pos h5, if_pos (by decide)]
  obtain ⟨i, hi, rfl⟩ := inR_i3 h1
  obtain ⟨j, hj, rfl⟩ := inR_i3 h2
  have ni : q_nat (q_i3 i) = i := i3_toNat (by omega)
  have nj : q_nat (q_i3 j) = j := i3_toNat (by omega)
  rw [ni, nj] at eF
  unfold rsnIn at eF
  rw [wp_bn, xgP12_13 hK, wp_bn, xl226 hK, i3_toNat (by omega), (hM.2 i (by omega)).2.2.1]
  refine ⟨inA_of (by omega) (by omega), ?_⟩
  rw [wp_ite]
  by_cases h6 : vFa (sM s) i = 0
  rotate_left
  · rw [if_pos h6, wp_rt, eF, if_pos (Or.inl h6)]; exact ⟨rfl, m0⟩
  rw [if_neg (fun z => z h6), wp_bn, xgP12_19 hK, wp_bn, xl274 hK, i3_toNat (by omega), (hL j hj).2.1]
  refine ⟨inA_of (by omega) hj, ?_⟩
  rw [wp_ite]
  by_cases h7 : (sG s).2 j = 0
  rotate_left
  · rw [if_neg h7, wp_rt, eF, if_pos (Or.inr h7)]; exact ⟨rfl, m0⟩
  rw [if_neg (fun z => z.elim (fun w => w h6) (fun w => w h7))] at eF
  rw [if_pos h7, wp_bn, xpR12 hK, wp_bn, wp_eq (r_latest hK hD hID hj), wp_ite]
  have hbd := hI.1.2.2.2.1 i (by omega) j hj
  have tail : ∀ ν, Md [2352, 812, 813] μ ν → (¬ (lat (sD s) j ≠ -1 ∧ ¬ absI (price - lat (sD s) j) ≤ q_rv (sU s) 0 (q_i3 (dT (sD s))) (q_i3 j) (lat (sD s) j) 0 0 0)) → q_wp (F_X12_reason_L104 (b + 38) (q_i3 i) buy (q_i3 j) lots) ν (fun r ν => r = F ∧ Md [2352, 812, 813] μ ν) := by
    intro ν md1 h8
    rw [if_neg h8] at eF
    have K1 := md1.k0 hK
    have A1 : q_AR ν b s := hA.md md1 rfl
    obtain ⟨hM1, hL1, hO1, hT1, hD1, hR1, hN1, hU1, hP1⟩ := id A1
    unfold F_X12_reason_L104
    rw [wp_bn, xgP12_14 K1, i3m6, i3_add, wp_bn, xl232 K1, i3_toNat (by omega), (hM1.2 i (by omega)).2.2.2.2 j hj]
    refine ⟨inA_of (by omega) (by omega), ?_⟩
    have hlots : ∀ x, x ∈ (sO s).1 → 0 < (oL x).toInt ∧ (oL x).toInt ≤ 50 := fun x hx => by have := hI.2.2.1.2.2 x hx; exact ⟨this.2.1, this.2.2.1⟩
    have L129 : ∀ y : Int32, y.toInt = heldI s i j buy → q_wp (F_X12_reason_L129 (b + 38) (q_i3 i) buy (q_i3 j) lots y) ν (fun r ν => r = F ∧ Md [2352, 812, 813] μ ν) := by
      intro y hy
      have hyb : -3600000 ≤ y.toInt ∧ y.toInt ≤ 3600000 := by rw [hy]; unfold heldI; split <;> omega
      unfold F_X12_reason_L129
      have pbd := pS_bd (p := fun x => oM x == q_i3 i && (oT x == q_i3 j && oB x == buy)) hlots
      refine wp_loop (σ := Int64) (fun f k x => F_X12_reason_L138 f (b + 38) (q_i3 i) buy (q_i3 j) lots x (q_i3 k)) (sO s).1.length (fun k x ρ => ρ = ν ∧ x.toInt = y.toInt + lots.toInt + q_pS (sO s).1 (fun x => oM x == q_i3 i && (oT x == q_i3 j && oB x == buy)) k) _ ?_ ?_ FU 0 _ ν (by omega) (by show _ < 100000; omega) ⟨rfl, by rw [Int32.toInt_toInt64, add_bd (by omega)]; show _ = _ + (0 : Int); omega⟩
      · rintro f x ρ ⟨rfl, hx⟩
        show q_wp (F_X12_reason_L138 (f + 1) (b + 38) (q_i3 i) buy (q_i3 j) lots x (q_i3 (sO s).1.length)) ρ _
        unfold F_X12_reason_L138 F_X12_reason_L262
        have ew : q_pS (sO s).1 (fun x => oM x == q_i3 i && (oT x == q_i3 j && oB x == buy)) (sO s).1.length = wS (sO s).1 (q_i3 i) buy (q_i3 j) := by unfold q_pS wS; rw [List.take_length]
        rw [wp_bn, xgI12 K1, show mI ρ (64 * 12 + 21) (b + 38) = q_i3 (sO s).1.length from hO1.1, wp_ite, if_pos ((i3_le (by omega) (by omega)).mpr (Nat.le_refl _)), wp_bn, xgI12 K1, show mI ρ (64 * 12 + 24) (b + 38) = q_i3 (dT (sD s)) from hD1.1, wp_bn, xpR12 K1, wp_bn]
        refine q_wp_mono (r_ruleOf K1 hU1) ?_
        rintro r9 μ2 ⟨rfl, md2⟩
        have md12 : Md [2352, 812, 813] μ μ2 := (md1.tr md2).wk rfl
        have K2 := md2.k0 K1
        rw [wp_ite]
        have e4 : lg_cmp x (q_rv (sU s) 3 (q_i3 (dT (sD s))) (q_i3 j) 0 lots 0 0).toInt64 ≤ 0 ↔ heldI s i j buy + wS (sO s).1 (q_i3 i) buy (q_i3 j) + lots.toInt ≤ (q_rv (sU s) 3 (q_i3 (dT (sD s))) (q_i3 j) 0 lots 0 0).toInt := by
          rw [lgc_le, Int32.toInt_toInt64, hx, hy, ew]; omega
        by_cases h9 : heldI s i j buy + wS (sO s).1 (q_i3 i) buy (q_i3 j) + lots.toInt ≤ (q_rv (sU s) 3 (q_i3 (dT (sD s))) (q_i3 j) 0 lots 0 0).toInt
        rotate_left
        · rw [if_pos h9] at eF; rw [if_neg (fun z => h9 (e4.mp z)), wp_rt]; exact ⟨eF.symm, md12⟩
        rw [if_neg (fun z => z h9)] at eF
        rw [if_pos (e4.mpr h9), wp_bn, xgI12 K2, show mI μ2 (64 * 12 + 21) (b + 38) = q_i3 (sO s).1.length by rw [md2.1.i _ rfl]; exact hO1.1, wp_ite]
        have heq : q_i3 (sO s).1.length = 120 ↔ (sO s).1.length = 120 := i3_eq (b := 120) (by omega) (by omega)
        by_cases h10 : 120 ≤ (sO s).1.length
        · rw [if_pos (Or.inl h10)] at eF; rw [if_pos (heq.mpr (by omega)), wp_rt]; exact ⟨eF.symm, md12⟩
        rw [if_neg (fun z => h10 (by have := heq.mp z; omega)), wp_bn, xgI12 K2, show mI μ2 (64 * 12 + 23) (b + 38) = q_i3 (sT s).1 by rw [md2.1.i _ rfl]; exact hT1.1, wp_ite]
        have heq2 : q_i3 (sT s).1 = 700 ↔ (sT s).1 = 700 := i3_eq (b := 700) (by omega) (by omega)
        by_cases h11 : (sT s).1 < 700
        · rw [if_neg (by omega)] at eF; rw [if_pos (fun z => by have := heq2.mp z; omega), wp_rt]; exact ⟨eF.symm, md12⟩
        · rw [if_pos (Or.inr (by omega))] at eF; rw [if_neg (fun z => z (heq2.mpr (by omega))), wp_rt]; exact ⟨eF.symm, md12⟩
      · rintro f k x ρ hk ⟨rfl, hx⟩ ih
        show q_wp (F_X12_reason_L138 (f + 1) (b + 38) (q_i3 i) buy (q_i3 j) lots x (q_i3 k)) ρ _
        unfold F_X12_reason_L138 F_X12_reason_L182 F_X12_reason_L213
        obtain ⟨g0, g1, g2, g3, g4⟩ := hO1.2 k hk
        have b0 : 5 * k < 600 := by omega
        have b1 : 5 * k + 1 < 600 := by omega
        have b2 : 5 * k + 2 < 600 := by omega
        have b4 : 5 * k + 4 < 600 := by omega
        rw [wp_bn, xgI12 K1, show mI ρ (64 * 12 + 21) (b + 38) = q_i3 (sO s).1.length from hO1.1, wp_ite, if_neg (fun z => by have := (i3_le (by omega) (by omega)).mp z; omega)]
        simp (maxSteps := 2000000) (disch := first | assumption | omega | (simp only [K0_sI, K0_sL, K0_tI, K0_tL, K0_nE]; assumption)) only [wp_bn, xgI11, xgL11, xwI11, xpR11, xgI4, xgL4, xwI4, xpR4, xgI7, xgL7, xwI7, xpR7, xgI12, xgL12, xwI12, xpR12, xgP11_0, xgP11_1, xgP11_2, xgP11_3, xgP11_4, xgP11_5, xgP11_6, xgP11_7, xgP4_0, xl115, xs115, xgP4_9, xl120, xs120, xgP7_0, xgP7_1, xl136, xs136, xgP7_2, xl144, xs144, xgP12_0, xl160, xs160, xgP12_4, xl168, xs168, xgP12_5, xl176, xs176, xgP12_6, xl184, xs184, xgP12_7, xl192, xs192, xgP12_8, xl200, xs200, xgP12_11, xl209, xs209, xgP12_12, xl218, xs218, xgP12_13, xl226, xs226, xgP12_14, xl232, xs232, xgP12_15, xl241, xs241, xgP12_16, xl248, xs248, xgP12_17, xl256, xs256, xgP12_18, xl264, xs264, xgP12_19, xl274, xs274, xgP12_20, xl280, xs280, xgP12_22, xl288, xs288, xgP12_25, xl296, xs296, xgP12_26, xl305, xs305, xgP12_27, xl312, xs312, xgP12_28, xl321, xs321, xgP12_29, xl328, xs328, xgP12_31, xl336, xs336, xgP12_33, xl344, xs344, xgP12_46, xl352, xs352, xgP12_47, xl360, xs360, xgP2_0, xpL2_0, xgP2_1, xpL2_1, xgP2_2, xpL2_2, xgI2, xwZ2, xpR2, xmo, xpL_5, xpL_33, xpL_34, xpL_35, xpL_36, xpL_37, i3m2, i3m4, i3m5, i3m6, i3m7, i3m12, i3m60, i3m72, i3m1600, i3r6, i3p1, i3p2, i3p3, i3p4, i3p5, i3p6, i3p7, i3p8, i3p9, i3p20, i3_add, i3_mul, i3_toNat, inA_i3, i3_lt, i3_le, i3_eq, wp_ite, b0, b1, b2, b4, true_and, g0, g1, g2, g4]
        have pk := pbd k (by omega)
        have q_lk := hlots ((sO s).1.getD k q_o0) (by rw [getD_o hk]; exact List.getElem_mem _)
        have skip : ¬ ((oM ((sO s).1.getD k q_o0) == q_i3 i && (oT ((sO s).1.getD k q_o0) == q_i3 j && oB ((sO s).1.getD k q_o0) == buy)) = true) → q_wp (F_X12_reason_L138 f (b + 38) (q_i3 i) buy (q_i3 j) lots x (q_i3 (k + 1))) ρ (fun r ν => r = F ∧ Md [2352, 812, 813] μ ν) := by
          intro hn
          refine ih _ ρ ⟨rfl, ?_⟩
          rw [pS_succ hk, if_neg hn, hx]; omega
        have take : ((oM ((sO s).1.getD k q_o0) == q_i3 i && (oT ((sO s).1.getD k q_o0) == q_i3 j && oB ((sO s).1.getD k q_o0) == buy)) = true) → q_wp (F_X12_reason_L138 f (b + 38) (q_i3 i) buy (q_i3 j) lots (x + (oL ((sO s).1.getD k q_o0)).toInt64) (q_i3 (k + 1))) ρ (fun r ν => r = F ∧ Md [2352, 812, 813] μ ν) := by
          intro hn
          refine ih _ ρ ⟨rfl, ?_⟩
          rw [pS_succ hk, if_pos hn, add_bd64 (by rw [Int32.toInt_toInt64]; omega), Int32.toInt_toInt64, hx]; omega
        by_cases e0 : oM ((sO s).1.getD k q_o0) = q_i3 i
        · rw [if_neg (fun z => z e0)]
          have go : (if ¬ oB ((sO s).1.getD k q_o0) = buy then q_wp (F_X12_reason_L138 f (b + 38) (q_i3 i) buy (q_i3 j) lots x (q_i3 (k + 1))) ρ (fun r ν => r = F ∧ Md [2352, 812, 813] μ ν) else if ¬ oT ((sO s).1.getD k q_o0) = q_i3 j then q_wp (F_X12_reason_L138 f (b + 38) (q_i3 i) buy (q_i3 j) lots x (q_i3 (k + 1))) ρ (fun r ν => r = F ∧ Md [2352, 812, 813] μ ν) else q_wp (F_X12_reason_L138 f (b + 38) (q_i3 i) buy (q_i3 j) lots (x + (oL ((sO s).1.getD k q_o0)).toInt64) (q_i3 (k + 1))) ρ (fun r ν => r = F ∧ Md [2352, 812, 813] μ ν)) := by
            by_cases e1 : oB ((sO s).1.getD k q_o0) = buy
            · rw [if_neg (fun z => z e1)]
              by_cases e2 : oT ((sO s).1.getD k q_o0) = q_i3 j
              · rw [if_neg (fun z => z e2)]; exact take (by simp only [e0, e1, e2]; simp)
              · rw [if_pos e2]; exact skip (by simp only [Bool.and_eq_true, beq_iff_eq]; exact fun z => e2 z.2.1)
            · rw [if_pos e1]; exact skip (by simp only [Bool.and_eq_true, beq_iff_eq]; exact fun z => e1 z.2.2)
          rcases hbuy with rfl | rfl
          · rw [if_pos rfl]; exact go
          · rw [if_neg (by decide)]; exact go
        · rw [if_pos e0]; exact skip (by simp only [Bool.and_eq_true, beq_iff_eq]; exact fun z => e0 z.1)
    rw [wp_ite]
    rcases hbuy with rfl | rfl
    · rw [if_pos rfl]; exact L129 _ (by unfold heldI; rw [if_pos rfl, neg_bd (by omega)])
    · rw [if_neg (by decide)]; exact L129 _ (by unfold heldI; rw [if_neg (by decide)])
  by_cases h8 : lat (sD s) j = -1
  · rw [if_pos h8]; exact tail μ m0 fun z => z.1 h8
  rw [if_neg h8, wp_bn, xgI12 hK, show mI μ (64 * 12 + 24) (b + 38) = q_i3 (dT (sD s)) from hD.1, wp_bn, xpR12 hK, wp_bn]
  refine q_wp_mono (r_ruleOf hK hU) ?_
  rintro r8 μ1 ⟨rfl, md1⟩
  rw [wp_ite]
  show if absI (price - lat (sD s) j) ≤ _ then _ else _
  by_cases h9 : absI (price - lat (sD s) j) ≤ q_rv (sU s) 0 (q_i3 (dT (sD s))) (q_i3 j) (lat (sD s) j) 0 0 0
  · rw [if_pos h9]; exact tail μ1 md1 fun z => z.2 h9
  · rw [if_neg h9, wp_rt, eF, if_pos ⟨h8, h9⟩]; exact ⟨rfl, md1⟩

def IMb (v : q_VM) (B : Int) : Prop := vN v ≤ 12 ∧ (∀ i, vN v ≤ i → i < 12 → vPd v i = 0 ∧ vCl v i = 0 ∧ vFa v i = 0 ∧ vCs v i = 0 ∧ ∀ j, j < 6 → vPs v i j = 0) ∧ (∀ i, i < 12 → (vCl v i = 0 ∨ vCl v i = 1) ∧ (vFa v i = 0 ∨ vFa v i = 1)) ∧ (∀ i, i < 12 → ∀ j, j < 6 → - B ≤ (vPs v i j).toInt ∧ (vPs v i j).toInt ≤ B) ∧ ∀ j, j < 6 → ((List.range 12).map fun i => (vPs v i j).toInt).sum = 0
theorem IM.b {v : q_VM} {c : Nat} (h : IM v c) : IMb v (100 * c) := h
theorem IMb.le {v : q_VM} {B C : Int} (h : IMb v B) (hBC : B ≤ C) : IMb v C := ⟨h.1, h.2.1, h.2.2.1, fun i hi j hj => by have := h.2.2.2.1 i hi j hj; omega, h.2.2.2.2⟩
theorem sum_upd (f g : Nat → Int) (i : Nat) (d : Int) : ∀ n, i < n → (∀ k, k < n → g k = if k = i then f k + d else f k) → ((List.range n).map g).sum = ((List.range n).map f).sum + d
  | 0, h, _ => by omega
  | n + 1, h, hg => by
    rw [List.range_succ, List.map_append, List.map_append, List.sum_append, List.sum_append]
    simp only [List.map_singleton, List.sum_singleton]
    by_cases e : i = n
    · have : (List.range n).map g = (List.range n).map f := by
        apply List.map_congr_left
        intro k hk
        rw [List.mem_range] at hk
        rw [hg k (by omega), if_neg (by omega)]
      rw [this, hg n (by omega), if_pos e.symm]; omega
    · rw [sum_upd f g i d n (by omega) (fun k hk => hg k (by omega)), hg n (by omega), if_neg (fun z => e z.symm)]; omega
theorem gain_sum {v : q_VM} {i j k : Nat} {l p : Int32} (hi : i < 12) (hs : (vPs v i j + l).toInt = (vPs v i j).toInt + l.toInt) : ((List.range 12).map fun a => (vPs (gainM v i j l p) a k).toInt).sum = ((List.range 12).map fun a => (vPs v a k).toInt).sum + if k = j then l.toInt else 0 := by
  by_cases e : k = j
  · rw [if_pos e]
    refine sum_upd _ _ i _ 12 hi fun a _ => ?_
    show (updP (vPs v) i j (vPs v i j + l) a k).toInt = _
    unfold updP
    by_cases ea : a = i
    · rw [if_pos ⟨ea, e⟩, if_pos ea, hs, ea, e]
    · rw [if_neg (fun z => ea z.1), if_neg ea]
  · rw [if_neg e, Int.add_zero]
    congr 1
    apply List.map_congr_left
    intro a _
    show (updP (vPs v) i j (vPs v i j + l) a k).toInt = _
    unfold updP
    rw [if_neg (fun z => e z.2)]
theorem mv_IM {v : q_VM} {B : Int} {bi si j : Nat} {l p : Int32} (h : IMb v B) (hB : B ≤ 1000000000) (hb : bi < vN v) (hs : si < vN v) (hj : j < 6) (hl : 1 ≤ l.toInt ∧ l.toInt ≤ 50) : IMb (mvM v bi si j l p) (B + l.toInt) ∧ vN (mvM v bi si j l p) = vN v := by
  unfold mvM
  by_cases he : bi = si
  · rw [if_pos he]; exact ⟨h.le (by omega), rfl⟩
  rw [if_neg he]
  obtain ⟨h1, h2, h3, h4, h5⟩ := h
  have b1 := h4 bi (by omega) j hj
  have s1 := h4 si (by omega) j hj
  have eb : (vPs v bi j + l).toInt = (vPs v bi j).toInt + l.toInt := add_bd (by omega)
  have nl : (-l).toInt = - l.toInt := neg_bd (by omega)
  have esi : vPs (gainM v bi j l p) si j = vPs v si j := by
    show updP (vPs v) bi j _ si j = _; unfold updP; rw [if_neg (fun z => he z.1.symm)]
  have es : (vPs (gainM v bi j l p) si j + -l).toInt = (vPs (gainM v bi j l p) si j).toInt + (-l).toInt := by rw [esi]; exact add_bd (by omega)
  have pv : ∀ a k, vPs (gainM (gainM v bi j l p) si j (-l) p) a k = if a = si ∧ k = j then vPs v si j + -l else if a = bi ∧ k = j then vPs v bi j + l else vPs v a k := by
    intro a k
    show updP (vPs (gainM v bi j l p)) si j (vPs (gainM v bi j l p) si j + -l) a k = _
    rw [esi]; rfl
  refine ⟨⟨h1, fun i hi hi12 => ?_, h3, fun i hi k hk => ?_, fun k hk => ?_⟩, rfl⟩
  · have hi : vN v ≤ i := hi
    obtain ⟨z1, z2, z3, z4, z5⟩ := h2 i hi hi12
    refine ⟨z1, z2, z3, ?_, fun k hk => ?_⟩
    · show q_upd (q_upd (vCs v) bi _) si _ i = 0
      unfold q_upd; rw [if_neg (by omega), if_neg (by omega)]; exact z4
    · rw [pv, if_neg (by omega), if_neg (by omega)]; exact z5 k hk
  · rw [pv]
    have hik := h4 i hi k hk
    by_cases e1 : i = si ∧ k = j
    · rw [if_pos e1, ← esi, es, esi, nl]; omega
    · rw [if_neg e1]
      by_cases e2 : i = bi ∧ k = j
      · rw [if_pos e2, eb]; omega
      · rw [if_neg e2]; omega
  · rw [gain_sum (by omega) es, gain_sum (by omega) eb, h5 k hk, nl]
    split <;> omega
theorem mv_IL {v : q_VM} {g : VL} {B : Int} {bi si j n nt c : Nat} {l : Int32} (h : q_IL g n nt c) (hIM : IMb v B) (hB : B ≤ 1000000000) (hb : bi < n) (hb12 : bi < 12) (hj : j < 6) (hl : 1 ≤ l.toInt ∧ l.toInt ≤ 50) (hn : n < 2147483648) : q_IL (mvG v g.1 bi si j l, g.2) n (nt + 1) c := by
  intro k hk
  obtain ⟨h1, h2, h3⟩ := h k hk
  show (mvG v g.1 bi si j l k).length ≤ nt + 1 + c ∧ (∀ q, q ∈ mvG v g.1 bi si j l k → _) ∧ _
  unfold mvG
  by_cases he : bi = si
  · rw [if_pos he]; exact ⟨by omega, h2, h3⟩
  rw [if_neg he]
  unfold q_upd
  by_cases e : k = j
  · subst e
    rw [if_pos rfl]
    have tl := tk_len (q_i3 si) (g.1 k) l
    have tm := tk_mem (s := q_i3 si) (n := n) (g.1 k) l (by omega) h2
    have b1 := hIM.2.2.2.1 bi hb12 k hk
    have z0 : (0 : Int32).toInt = 0 := rfl
    unfold mvL
    by_cases hm : moreX v bi k l ≤ 0
    · rw [if_pos hm, List.append_nil]; exact ⟨by omega, tm, h3⟩
    · rw [if_neg hm]
      refine ⟨by rw [List.length_append, List.length_singleton]; omega, fun q hq => ?_, h3⟩
      rcases List.mem_append.mp hq with hq | hq
      · exact tm q hq
      · rw [List.mem_singleton.mp hq]
        refine ⟨i3_inR hb hn, ?_⟩
        show 0 < (moreX v bi k l).toInt ∧ (moreX v bi k l).toInt ≤ 50
        rw [Int32.le_iff_toInt_le, z0] at hm
        refine ⟨by omega, ?_⟩
        unfold moreX
        by_cases hx : vPs v bi k < 0
        · rw [if_pos hx, add_bd (by omega)]; rw [Int32.lt_iff_toInt_lt, z0] at hx; omega
        · rw [if_neg hx]; simp; omega
  · rw [if_neg e]; exact ⟨by omega, h2, h3⟩
def setLn (n : Nat) (l : Int32) (y : Od) : Od := if q_oN y = n then (q_oN y, oM y, oB y, oT y, oP y, l) else y
def ltS (os : List Od) (n : Nat) (l : Int32) : List Od := os.map (setLn n l)
theorem setLn_f (n : Nat) (l : Int32) (y : Od) : q_oN (setLn n l y) = q_oN y ∧ oM (setLn n l y) = oM y ∧ oB (setLn n l y) = oB y ∧ oT (setLn n l y) = oT y ∧ oP (setLn n l y) = oP y ∧ oL (setLn n l y) = if q_oN y = n then l else oL y := by
  unfold setLn
  by_cases h : q_oN y = n
  · rw [if_pos h, if_pos h]; exact ⟨rfl, rfl, rfl, rfl, rfl, rfl⟩
  · rw [if_neg h, if_neg h]; exact ⟨rfl, rfl, rfl, rfl, rfl, rfl⟩
theorem bef_setLn {s : Int32} {n : Nat} {l : Int32} {x y : Od} : bef s (setLn n l x) (setLn n l y) = bef s x y := by
  unfold bef
  rw [(setLn_f n l x).1, (setLn_f n l y).1, (setLn_f n l x).2.2.2.2.1, (setLn_f n l y).2.2.2.2.1]
theorem ltS_inc {os : List Od} {n : Nat} {l : Int32} (h : Inc os) : Inc (ltS os n l) := by
  unfold Inc ltS
  rw [List.pairwise_map]
  exact List.Pairwise.imp (fun {a b} q => by rw [(setLn_f n l a).1, (setLn_f n l b).1]; exact q) h
theorem co_lots {μ : Mem} {b i p : Nat} {v : q_VO} {s l : Int32} (hK : K0 μ b) (hW : WF μ) (h : q_CO μ b v) (hi : i < 6) (hs : s = 0 ∨ s = 1) (hp : p < (q_side v.1 (q_i3 i) s).length) : q_CO (sI μ 579 ((q_lst μ (b + sdO i s)).getD p 0) l) b (ltS v.1 (q_oN ((q_side v.1 (q_i3 i) s).getD p q_o0)) l, v.2) := by
  obtain ⟨a1, a2, a3⟩ := co_at h hi hs hp
  have hl := co_len h hi hs
  have hsd := h.side hi hs
  obtain ⟨h1, h2, h3, h4, h5⟩ := id h
  have hin : Inc v.1 := h3
  obtain ⟨r, hr⟩ : ∃ r, r = (q_lst μ (b + sdO i s)).getD p 0 := ⟨_, rfl⟩
  obtain ⟨o, ho⟩ : ∃ o, o = (q_side v.1 (q_i3 i) s).getD p q_o0 := ⟨_, rfl⟩
  rw [← hr, ← ho] at a1
  rw [← hr] at a2
  rw [← hr, ← ho] at a3
  rw [← hr, ← ho]
  have hll := (hW.sI (f := 579) (a := r) (v := l) (by omega) (by omega)).2
  have hmo : o ∈ q_side v.1 (q_i3 i) s := by rw [ho, getD_o hp]; exact List.getElem_mem _
  obtain ⟨om, ot, ob⟩ := side_mem.mp hmo
  have key : ∀ j, j < 6 → ∀ t, (t = 0 ∨ t = 1) → ∀ a, a ∈ q_lst μ (b + sdO j t) → (q_oN (odAt μ t (q_i3 j) a) = q_oN o ↔ a = r) := by
    intro j hj t ht a ha
    have hx : odAt μ t (q_i3 j) a ∈ sd μ b j t := by unfold sd; exact List.mem_map_of_mem ha
    constructor
    · intro e
      have hx' := ((h5 j hj t ht).2.2 _).mp hx
      have eq := hin.inj hx'.1 om e
      have e1 : oT (odAt μ t (q_i3 j) a) = q_i3 i := by rw [eq]; exact ot
      have e2 : oB (odAt μ t (q_i3 j) a) = s := by rw [eq]; exact ob
      have e1' : q_i3 j = q_i3 i := e1
      have e2' : t = s := e2
      have ej : j = i := (i3_eq (by omega) (by omega)).mp e1'
      subst ej e2'
      obtain ⟨q, hq, eq2⟩ := List.mem_iff_getElem.mp ha
      have : q = p := by
        rw [hsd] at hx
        have hq' : q < (q_side v.1 (q_i3 j) t).length := by omega
        have e5 := (co_at h hj ht hq').1
        rw [List.getD_eq_getElem?_getD, List.getElem?_eq_getElem hq, Option.getD_some, eq2, eq, ho, getD_o hp, getD_o hq'] at e5
        have hp2 := List.pairwise_iff_getElem.mp (side_nd (t := q_i3 j) (s := t) hin)
        rcases Nat.lt_trichotomy q p with z | z | z
        · exact absurd e5.symm (hp2 q p hq' hp z)
        · exact z
        · exact absurd e5 (hp2 p q hp hq' z)
      subst this
      rw [hr, List.getD_eq_getElem?_getD, List.getElem?_eq_getElem hq, Option.getD_some, eq2]
    · rintro rfl
      have hmem2 : a ∈ q_lst μ (b + sdO i s) := by rw [hr]; exact getD_mem (by omega)
      have := hW.2.2.2.2.1 _ _ (hK.lo (sdO_lo hj t)) (hK.lo (sdO_lo hi s)) a ha hmem2
      obtain ⟨ej, et⟩ := sdO_inj hj hi ht hs (by omega)
      subst ej et
      rw [a1]
  have sdm : ∀ j, j < 6 → ∀ t, (t = 0 ∨ t = 1) → sd (sI μ 579 r l) b j t = (sd μ b j t).map (setLn (q_oN o) l) := by
    intro j hj t ht
    unfold sd
    rw [hll, List.map_map]
    apply List.map_congr_left
    intro a ha
    have hk := key j hj t ht a ha
    show odAt (sI μ 579 r l) t (q_i3 j) a = setLn (q_oN o) l (odAt μ t (q_i3 j) a)
    unfold setLn
    by_cases e : a = r
    · rw [if_pos (hk.mpr e)]; subst e; unfold odAt; simp [mI_sI']; exact ⟨rfl, rfl, rfl, rfl, rfl⟩
    · rw [if_neg (fun z => e (hk.mp z))]; unfold odAt; simp [mI_sI', e]
  refine ⟨by rw [mI_sI', if_neg (by omega)]; exact h1, h2, ltS_inc hin, ?_, fun j hj t ht => ?_⟩
  · intro x hx
    unfold ltS at hx
    obtain ⟨y, hy, rfl⟩ := List.mem_map.mp hx
    obtain ⟨f1, f2, f3, f4, f5, f6⟩ := setLn_f (q_oN o) l y
    rw [f1, f3, f4]; exact h4 y hy
  · obtain ⟨q1, q2, q3⟩ := h5 j hj t ht
    rw [sdm j hj t ht, hll]
    refine ⟨fun a ha => ?_, ?_, fun x => ?_⟩
    · obtain ⟨z1, z2⟩ := q1 a ha
      exact ⟨z1, by rw [mI_sI', if_neg (by omega)]; exact z2⟩
    · rw [List.pairwise_map]
      exact List.Pairwise.imp (fun {x y} q => by rw [bef_setLn]; exact q) q2
    · rw [List.mem_map]
      unfold ltS
      rw [List.mem_map]
      constructor
      · rintro ⟨y, hy, rfl⟩
        obtain ⟨g1, g2, g3⟩ := (q3 y).mp hy
        obtain ⟨f1, f2, f3, f4, f5, f6⟩ := setLn_f (q_oN o) l y
        exact ⟨⟨y, g1, rfl⟩, by rw [f4]; exact g2, by rw [f3]; exact g3⟩
      · rintro ⟨⟨y, hy, rfl⟩, g2, g3⟩
        obtain ⟨f1, f2, f3, f4, f5, f6⟩ := setLn_f (q_oN o) l y
        rw [f4] at g2; rw [f3] at g3
        exact ⟨y, (q3 y).mpr ⟨hy, g2, g3⟩, rfl⟩
def kOx (os : List Od) (n : Nat) : Nat := os.findIdx fun y => q_oN y == n
theorem kOx_n {os : List Od} {k n : Nat} (h : Inc os) (hk : k < os.length) (hn : q_oN os[k] = n) : kOx os n = k := by
  unfold kOx
  have hlt : os.findIdx (fun y => q_oN y == n) < os.length := List.findIdx_lt_length_of_exists ⟨os[k], List.getElem_mem _, by simpa using hn⟩
  have he := List.findIdx_getElem (p := fun y => q_oN y == n) (xs := os) (w := hlt)
  have he : q_oN os[os.findIdx (fun y => q_oN y == n)] = n := by simpa using he
  have hp := List.pairwise_iff_getElem.mp h
  rcases Nat.lt_trichotomy (os.findIdx (fun y => q_oN y == n)) k with q | q | q
  · have := hp _ _ hlt hk q; omega
  · exact q
  · have := hp _ _ hk hlt q; omega
theorem kOx_of {os : List Od} {k : Nat} (h : Inc os) (hk : k < os.length) : kOx os (q_oN (os.getD k q_o0)) = k := kOx_n h hk (by rw [getD_o hk])
theorem ro_lots {μ : Mem} {b k : Nat} {v : q_VO} {l : Int32} (h : RO μ b v) (hin : Inc v.1) (hk : k < v.1.length) : RO (tI μ 280 (b + 54) (5 * k + 4) l) b (ltS v.1 (q_oN (v.1.getD k q_o0)) l, v.2) := by
  refine ⟨by show _ = q_i3 (ltS v.1 _ l).length; unfold ltS; rw [List.length_map]; exact h.1, fun a ha => ?_⟩
  have ha : a < (ltS v.1 (q_oN (v.1.getD k q_o0)) l).length := ha
  unfold ltS at ha
  rw [List.length_map] at ha
  obtain ⟨g0, g1, g2, g3, g4⟩ := h.2 a ha
  have eg : (ltS v.1 (q_oN (v.1.getD k q_o0)) l).getD a q_o0 = setLn (q_oN (v.1.getD k q_o0)) l (v.1.getD a q_o0) := by
    unfold ltS
    simp only [List.getD_eq_getElem?_getD, List.getElem?_map]
    rw [List.getElem?_eq_getElem ha]; rfl
  show _ = oM ((ltS v.1 (q_oN (v.1.getD k q_o0)) l).getD a q_o0) ∧ _ = oB ((ltS v.1 (q_oN (v.1.getD k q_o0)) l).getD a q_o0) ∧ _ = oT ((ltS v.1 (q_oN (v.1.getD k q_o0)) l).getD a q_o0) ∧ _ = oP ((ltS v.1 (q_oN (v.1.getD k q_o0)) l).getD a q_o0) ∧ _ = oL ((ltS v.1 (q_oN (v.1.getD k q_o0)) l).getD a q_o0)
  rw [eg]
  obtain ⟨f1, f2, f3, f4, f5, f6⟩ := setLn_f (q_oN (v.1.getD k q_o0)) l (v.1.getD a q_o0)
  rw [f2, f3, f4, f5, f6]
  have hne : q_oN (v.1.getD a q_o0) = q_oN (v.1.getD k q_o0) ↔ a = k := by
    constructor
    · intro e
      have := kOx_of hin ha
      rw [e, kOx_of hin hk] at this; exact this.symm
    · rintro rfl; rfl
  simp only [aI_tI', true_and]
  rw [if_neg (by omega), if_neg (by omega), if_neg (by omega), if_neg (by omega)]
  refine ⟨g0, g1, g2, g3, ?_⟩
  by_cases e : a = k
  · rw [if_pos (by rw [e]), if_pos (hne.mpr e)]
  · rw [if_neg (by omega), if_neg (fun z => e (hne.mp z))]; exact g4

def Ib (s : q_St) (B : Int) (c : Nat) : Prop := IMb (sM s) B ∧ q_IL (sG s) (vN (sM s)) (sT s).1 c ∧ IO' (sO s) (vN (sM s)) c ∧ IT (sT s) (vN (sM s)) (dT (sD s)) ∧ ID (sD s) (vN (sM s)) ∧ IR (sR s) (vN (sM s)) ∧ q_IN (q_sN s) (vN (sM s)) (sR s).1 (sD s) ∧ (sU s).length ≤ 30 ∧ (sP' s).1 ≤ 600
theorem Iv.b {s : q_St} {c : Nat} (h : Iv s c) : Ib s (100 * c) c := h
def tRow (m p l x y d : Int32) : Nat → Int32 := fun w => if w = 0 then m else if w = 1 then p else if w = 2 then l else if w = 3 then x else if w = 4 then y else if w = 5 then d else 0
def bI (mem : Nat) (buy : Int32) (o : Od) : Nat := if buy = 0 then q_nat (oM o) else mem
def sI' (mem : Nat) (buy : Int32) (o : Od) : Nat := if buy = 0 then mem else q_nat (oM o)
def stepT (s : q_St) (mem : Nat) (buy : Int32) (j : Nat) (o : Od) (part : Int32) : q_St := wT s ((sT s).1 + 1, q_upd (sT s).2 (sT s).1 (tRow (q_i3 j) (oP o) part (q_i3 (bI mem buy o)) (q_i3 (sI' mem buy o)) (q_i3 (dT (sD s)))))
def stepO (v : q_VO) (o : Od) (part : Int32) : q_VO := (if oL o - part = 0 then (ltS v.1 (q_oN o) (oL o - part)).eraseIdx (kOx v.1 (q_oN o)) else ltS v.1 (q_oN o) (oL o - part), v.2)
def stepF (s : q_St) (mem : Nat) (buy : Int32) (j : Nat) (o : Od) (part : Int32) : q_St := wO (q_mvS (stepT s mem buy j o part) (bI mem buy o) (sI' mem buy o) j part (oP o)) (stepO (sO s) o part)
abbrev q_meets (buy price : Int32) (o : Od) : Prop := if buy = 0 then ¬ oP o < price else ¬ price < oP o
def opp (buy : Int32) : Int32 := if buy = 0 then 1 else 0
def q_minL (x y : Int32) : Int32 := if x < y then x else y
def fillS (mem : Nat) (buy : Int32) (j : Nat) (price : Int32) : Nat → q_St → Int32 → Int32 × q_St
  | 0, s, left => (left, s)
  | n + 1, s, left => if left ≤ 0 then (left, s) else match q_side (sO s).1 (q_i3 j) (opp buy) with
    | [] => (left, s)
    | o :: _ => if q_meets buy price o ∧ (sT s).1 < 700 then fillS mem buy j price n (stepF s mem buy j o (q_minL (oL o) left)) (left - q_minL (oL o) left) else (left, s)
theorem stepO_ok {v : q_VO} {o : Od} {part : Int32} {n c : Nat} (h : IO' v n c) (hin : Inc v.1) (hlt : ∀ x, x ∈ v.1 → q_oN x < v.2 ∧ (oB x = 0 ∨ oB x = 1) ∧ q_inR (oT x) 6) (ho : o ∈ v.1) (hp : 1 ≤ part.toInt ∧ part.toInt ≤ (oL o).toInt) : IO' (stepO v o part) n c ∧ Inc (stepO v o part).1 ∧ (stepO v o part).1.length ≤ v.1.length ∧ (∀ x, x ∈ (stepO v o part).1 → q_oN x < v.2 ∧ (oB x = 0 ∨ oB x = 1) ∧ q_inR (oT x) 6) := by
  obtain ⟨h1, h2, h3⟩ := h
  have h50 := (h3 o ho).2.2.1
  have ei := ltS_inc (n := q_oN o) (l := oL o - part) hin
  obtain ⟨k, hk, ek⟩ := List.mem_iff_getElem.mp ho
  have hkx : kOx v.1 (q_oN o) = k := kOx_n hin hk (by rw [ek])
  have el : (ltS v.1 (q_oN o) (oL o - part)).length = v.1.length := by unfold ltS; rw [List.length_map]
  have z0 : (0 : Int32).toInt = 0 := rfl
  have es : (oL o - part).toInt = (oL o).toInt - part.toInt := by rw [Int32.toInt_sub, Int.bmod_eq_of_le] <;> omega
  have hy : ∀ x, x ∈ ltS v.1 (q_oN o) (oL o - part) → ∃ y, y ∈ v.1 ∧ x = setLn (q_oN o) (oL o - part) y := fun x hx => by
    unfold ltS at hx; obtain ⟨y, q1, q2⟩ := List.mem_map.mp hx; exact ⟨y, q1, q2.symm⟩
  have good : ∀ x, x ∈ ltS v.1 (q_oN o) (oL o - part) → (q_oN x = q_oN o → oL o - part ≠ 0) → (q_inR (oM x) n ∧ 0 < (oL x).toInt ∧ (oL x).toInt ≤ 50 ∧ 1 ≤ (oP x).toInt ∧ (oP x).toInt ≤ 10000) ∧ q_oN x < v.2 ∧ (oB x = 0 ∨ oB x = 1) ∧ q_inR (oT x) 6 := by
    intro x hx hz
    obtain ⟨y, q1, rfl⟩ := hy x hx
    obtain ⟨f1, f2, f3, f4, f5, f6⟩ := setLn_f (q_oN o) (oL o - part) y
    obtain ⟨g1, g2, g3, g4, g5⟩ := h3 y q1
    rw [f1] at hz
    rw [f1, f2, f3, f4, f5, f6]
    refine ⟨⟨g1, ?_, ?_, g4, g5⟩, hlt y q1⟩
    · by_cases e : q_oN y = q_oN o
      · rw [if_pos e]
        have : (oL o - part).toInt ≠ 0 := fun w => hz e (Int32.toInt_inj.mp (by rw [w, z0]))
        omega
      · rw [if_neg e]; exact g2
    · by_cases e : q_oN y = q_oN o
      · rw [if_pos e]; omega
      · rw [if_neg e]; exact g3
  unfold stepO
  by_cases hz : oL o - part = 0
  · simp only [hz, if_true]
    rw [hz] at ei el good
    have hk' : kOx v.1 (q_oN o) < (ltS v.1 (q_oN o) 0).length := by rw [hkx, el]; exact hk
    have hnum : q_oN ((ltS v.1 (q_oN o) 0).getD (kOx v.1 (q_oN o)) q_o0) = q_oN o := by
      rw [hkx]
      have : (ltS v.1 (q_oN o) 0).getD k q_o0 = setLn (q_oN o) 0 o := by
        unfold ltS; simp only [List.getD_eq_getElem?_getD, List.getElem?_map]; rw [List.getElem?_eq_getElem hk, ek]; rfl
      rw [this]; exact (setLn_f (q_oN o) 0 o).1
    have g' : ∀ x, x ∈ (ltS v.1 (q_oN o) 0).eraseIdx (kOx v.1 (q_oN o)) → (q_inR (oM x) n ∧ 0 < (oL x).toInt ∧ (oL x).toInt ≤ 50 ∧ 1 ≤ (oP x).toInt ∧ (oP x).toInt ≤ 10000) ∧ q_oN x < v.2 ∧ (oB x = 0 ∨ oB x = 1) ∧ q_inR (oT x) 6 := by
      intro x hx
      obtain ⟨q1, q2⟩ := (mem_er ei.nodup hk').mp hx
      refine good x q1 fun e => absurd ?_ q2
      exact ei.inj q1 (by rw [getD_o hk']; exact List.getElem_mem _) (by rw [e, hnum])
    have hlen : ((ltS v.1 (q_oN o) 0).eraseIdx (kOx v.1 (q_oN o))).length ≤ v.1.length := by rw [List.length_eraseIdx]; split <;> omega
    exact ⟨⟨by show ((ltS v.1 (q_oN o) 0).eraseIdx (kOx v.1 (q_oN o))).length ≤ 120; omega, h2, fun x hx => (g' x hx).1⟩, ei.er _, hlen, fun x hx => (g' x hx).2⟩
  · simp only [hz, if_false]
    exact ⟨⟨by show (ltS v.1 (q_oN o) (oL o - part)).length ≤ 120; omega, h2, fun x hx => (good x hx fun _ => hz).1⟩, ei, by show (ltS v.1 (q_oN o) (oL o - part)).length ≤ _; omega, fun x hx => (good x hx fun _ => hz).2⟩
theorem minL_bd {x left : Int32} (hx : 1 ≤ x.toInt) (hl : 0 < left.toInt) : 1 ≤ (q_minL x left).toInt ∧ (q_minL x left).toInt ≤ x.toInt ∧ (q_minL x left).toInt ≤ left.toInt := by
  unfold q_minL
  by_cases h : x < left
  · rw [if_pos h]; rw [Int32.lt_iff_toInt_lt] at h; omega
  · rw [if_neg h]; rw [Int32.lt_iff_toInt_lt] at h; omega
theorem ib_step {s : q_St} {B : Int} {c mem j : Nat} {buy part : Int32} {o : Od} (h : Ib s B c) (hB : B ≤ 900000000) (hin : Inc (sO s).1) (hlt : ∀ x, x ∈ (sO s).1 → q_oN x < (sO s).2 ∧ (oB x = 0 ∨ oB x = 1) ∧ q_inR (oT x) 6) (hm : mem < vN (sM s)) (hj : j < 6) (ho : o ∈ (sO s).1) (hp : 1 ≤ part.toInt ∧ part.toInt ≤ (oL o).toInt) (hnt : (sT s).1 < 700) :
    Ib (stepF s mem buy j o part) (B + part.toInt) c ∧ bI mem buy o < vN (sM s) ∧ sI' mem buy o < vN (sM s) ∧ vN (sM (stepF s mem buy j o part)) = vN (sM s) := by
  obtain ⟨i1, i2, i3', i4, i5, i6, i7, i8, i9⟩ := h
  have hn := i1.1
  obtain ⟨om, ol, ol50, op1, op2⟩ := i3'.2.2 o ho
  obtain ⟨a, ha, ea⟩ := inR_i3 om
  have na : q_nat (oM o) = a := by rw [ea]; exact i3_toNat (by omega)
  have hb : bI mem buy o < vN (sM s) := by unfold bI; split <;> omega
  have hs : sI' mem buy o < vN (sM s) := by unfold sI'; split <;> omega
  obtain ⟨m1, m2⟩ := mv_IM (p := oP o) i1 (by omega) hb hs hj (l := part) (by omega)
  have m3 := mv_IL i2 i1 (by omega) hb (by omega) hj (l := part) (si := sI' mem buy o) (by omega) (by omega)
  obtain ⟨o1, _, _, _⟩ := stepO_ok i3' hin hlt ho hp
  have vn : vN (sM (stepF s mem buy j o part)) = vN (sM s) := m2
  refine ⟨⟨m1, ?_, ?_, ?_, ?_, ?_, ?_, i8, i9⟩, hb, hs, vn⟩
  · rw [vn]; exact m3
  · rw [vn]; exact o1
  · rw [vn]
    obtain ⟨t1, t2, t3⟩ := i4
    refine ⟨by show (sT s).1 + 1 ≤ 700; omega, fun t ht => ?_, fun t ht => ?_⟩
    · have ht : t < (sT s).1 + 1 := ht
      show q_inR (q_upd (sT s).2 (sT s).1 _ t 0) 6 ∧ 1 ≤ (q_upd (sT s).2 (sT s).1 _ t 1).toInt ∧ (q_upd (sT s).2 (sT s).1 _ t 1).toInt ≤ 10000 ∧ 1 ≤ (q_upd (sT s).2 (sT s).1 _ t 2).toInt ∧ (q_upd (sT s).2 (sT s).1 _ t 2).toInt ≤ 50 ∧ q_inR (q_upd (sT s).2 (sT s).1 _ t 3) _ ∧ q_inR (q_upd (sT s).2 (sT s).1 _ t 4) _ ∧ q_inR (q_upd (sT s).2 (sT s).1 _ t 5) _ ∧ (q_upd (sT s).2 (sT s).1 _ t 6 = 0 ∨ q_upd (sT s).2 (sT s).1 _ t 6 = 1)
      unfold q_upd
      by_cases e : t = (sT s).1
      · simp only [if_pos e]
        have hd := i5.1
        exact ⟨i3_inR hj (by omega), op1, op2, hp.1, by show part.toInt ≤ 50; omega, i3_inR hb (by omega), i3_inR hs (by omega), show q_inR (q_i3 (dT (sD s))) (dT (sD s) + 1) from i3_inR (show dT (sD s) < dT (sD s) + 1 by omega) (show dT (sD s) + 1 < 2147483648 by omega), Or.inl rfl⟩
      · simp only [if_neg e]; exact t2 t (by omega)
    · have ht : t + 1 < (sT s).1 + 1 := ht
      show (q_upd (sT s).2 (sT s).1 _ t 5).toInt ≤ (q_upd (sT s).2 (sT s).1 _ (t + 1) 5).toInt
      unfold q_upd
      rw [if_neg (show ¬ t = (sT s).1 by omega)]
      by_cases e : t + 1 = (sT s).1
      · rw [if_pos e]
        show _ ≤ (q_i3 (dT (sD s))).toInt
        have := (t2 t (by omega)).2.2.2.2.2.2.2.1
        have hd := i5.1
        unfold q_inR at this
        rw [i3_toInt (by omega)]; omega
      · rw [if_neg e]; exact t3 t (by omega)
  · rw [vn]; exact i5
  · rw [vn]; exact i6
  · rw [vn]; exact i7
