theorem dayDx {μ ν ρ : Mem} {b c r k : Nat} {s : q_St} {P : Nat → Int32} (hK : K0 μ b) (hW : WF μ) (hD : q_CD μ b (sD s)) (hID : ID (sD s) c) (hν : NI μ b s r P 6 ν) (u : LU (b + 37) (q_lst ν (b + 37) ++ [r]) k ν ρ) : CDx ρ b (q_nD (sD s) (vN (sM s)) P (fun _ => 0) (fun _ _ => 0)) := by
  obtain ⟨C1, R1, D1, O1, G1, H1, A1, B1⟩ := hν
  have hb := hID.1
  have ll : q_lst ν (b + 37) = q_lst μ (b + 37) := C1.2.2.1 37 (by decide) (by decide)
  have l2 : q_lst ρ (b + 37) = q_lst μ (b + 37) ++ [r] := by rw [u.2.2.1, ll]
  have f := u.2.1
  have len0 : (q_lst μ (b + 37)).length = dT (sD s) := hD.2.2.1
  have edy : ∀ d, d < dT (sD s) → dy ρ b d = dy μ b d := fun d hd => by unfold dy; rw [l2, getD_app1 (by omega)]
  have edr : dy ρ b (dT (sD s)) = r := by unfold dy; rw [l2, ← len0, getD_app2]
  refine ⟨by rw [f.i 714 rfl, C1.2.1.i 714 rfl]; exact hD.2.1, by rw [l2, List.length_append, len0]; rfl, fun d hd => ?_⟩
  have hd' : d < dT (sD s) + 1 := hd
  by_cases e : d = dT (sD s)
  · subst e
    have e1 : dNm (q_nD (sD s) (vN (sM s)) P (fun _ => 0) (fun _ _ => 0)) (dT (sD s)) = vN (sM s) := by show q_upd (dNm (sD s)) (dT (sD s)) (vN (sM s)) (dT (sD s)) = _; unfold q_upd; rw [if_pos rfl]
    rw [edr, e1]
    refine ⟨G1.fr f rfl, fun j hj => ?_, fun i hi => ?_⟩
    · rw [nD_chn hID (Nat.le_refl _), if_pos rfl, f.ap 86 rfl]
      exact Ch.fr (fun a ha => f.k rfl ha) (fun a _ => ⟨by rw [f.i 512 rfl], by rw [f.i 513 rfl], by rw [f.p 514 rfl]⟩) _ _ (H1 j hj)
    · have e2 : dBa (q_nD (sD s) (vN (sM s)) P (fun _ => 0) (fun _ _ => 0)) (dT (sD s)) i = 0 := by show q_upd (dBa (sD s)) (dT (sD s)) _ (dT (sD s)) i = _; unfold q_upd; rw [if_pos rfl]
      have e3 : ∀ j, dPs (q_nD (sD s) (vN (sM s)) P (fun _ => 0) (fun _ _ => 0)) (dT (sD s)) i j = 0 := fun j => by show q_upd (dPs (sD s)) (dT (sD s)) _ (dT (sD s)) i j = _; unfold q_upd; rw [if_pos rfl]
      rw [e2, f.alg 97 rfl, f.ai 88 rfl]
      exact ⟨A1 i, fun j hj => by rw [e3]; exact B1 _⟩
  · have hd0 : d < dT (sD s) := by omega
    have X : CDx ν b (sD s) := hD.x.old C1.2.1 rfl D1 ll
    obtain ⟨⟨d1, d2, d3, d4, d5, d6, d7, d8, d9, d10⟩, g1, g2⟩ := X.2.2 d hd0
    have edν : dy ρ b d = dy ν b d := by rw [edy d hd0]; unfold dy; rw [ll]
    have e1 : dNm (q_nD (sD s) (vN (sM s)) P (fun _ => 0) (fun _ _ => 0)) d = dNm (sD s) d := by show q_upd (dNm (sD s)) (dT (sD s)) (vN (sM s)) d = _; unfold q_upd; rw [if_neg e]
    have e2 : dBa (q_nD (sD s) (vN (sM s)) P (fun _ => 0) (fun _ _ => 0)) d = dBa (sD s) d := by show q_upd (dBa (sD s)) (dT (sD s)) _ d = _; unfold q_upd; rw [if_neg e]
    have e3 : dPs (q_nD (sD s) (vN (sM s)) P (fun _ => 0) (fun _ _ => 0)) d = dPs (sD s) d := by show q_upd (dPs (sD s)) (dT (sD s)) _ d = _; unfold q_upd; rw [if_neg e]
    rw [edν, e1, e2, e3, f.alg 97 rfl, f.ai 88 rfl, f.ap 86 rfl]
    refine ⟨⟨f.k d1 (by omega), by rw [f.p 0 rfl]; exact d2, by rw [f.p 1 rfl]; exact d3, by rw [f.p 2 rfl]; exact d4, f.k d5 (by omega), f.k d6 (by omega), f.k d7 (by omega), f.n (by omega) d8, f.n (by omega) d9, f.n (by omega) d10⟩, fun j hj => ?_, g2⟩
    rw [nD_chn hID (by omega), if_neg e]
    exact Ch.fr (fun a ha => f.k rfl ha) (fun a _ => ⟨by rw [f.i 512 rfl], by rw [f.i 513 rfl], by rw [f.p 514 rfl]⟩) _ _ (g1 j hj)
def NAS : List Nat := [832, 833, 834, 2372, 512, 513, 514, 2086, 0, 1, 2, 579, 2104, 65, 67, 68, 2136, 451, 2144, 2088, 2097, 712]
def NAL : List Nat := [10, 11, 14, 15, 18, 19, 22, 23, 26, 27, 30, 31, 12, 16, 20, 24, 28, 32, 37]
theorem c_night {μ : Mem} {b c : Nat} {s : q_St} (hK : K0 μ b) (hW : WF μ) (hA : q_AC μ b s) (hI : Iv s c) (hc : c ≤ 600) : q_wp (F_X11_night b) μ (fun r ν => r = (fNight s).1 ∧ cOK μ b (fNight s).2 30 500 ν) := by
  obtain ⟨hM, hL, hO, hT, hD, hR, hN, hU, hP⟩ := id hA
  have hID := hI.2.2.2.2.1
  have hIT := hI.2.2.2.1
  have h12 := hI.1.1
  have hb := hID.1
  unfold F_X11_night
  rw [wp_bn, xgI11 hK, show mI μ (64 * 11 + 8) b = q_i3 (dT (sD s)) from hD.1, wp_ite]
  obtain ⟨F, eF⟩ : ∃ F, F = fNight s := ⟨_, rfl⟩
  rw [← eF]
  unfold fNight at eF
  have hlt : q_i3 (dT (sD s)) < 150 ↔ dT (sD s) < 150 := i3_lt (b := 150) (by omega) (by omega)
  by_cases h : dT (sD s) < 150
  rotate_left
  · rw [if_neg h] at eF
    rw [if_neg (fun z => h (hlt.mp z)), wp_rt, eF]
    exact ⟨rfl, cOK.rf hK hW hA⟩
  rw [if_pos h] at eF
  rw [if_pos (hlt.mpr h)]
  refine c_dayNew hK hW hA h12 rfl rfl (nP s) fun ν0 h0 => ?_
  have hrx : ∀ a, mK μ a ≠ 0 → a ≠ mX μ ∧ a ≠ mX μ + 1 ∧ a ≠ mX μ + 2 ∧ a ≠ mX μ + 3 := fun a ha => by have := hW.z.lt ha; omega
  refine c_nightMo hK hA hI hrx h0 fun ν hν => ?_
  obtain ⟨r, hr⟩ : ∃ r, r = mX μ := ⟨_, rfl⟩
  rw [← hr] at hν h0 ⊢
  clear h0
  obtain ⟨C1, R1, D1, O1, G1, H1, A1, B1⟩ := id hν
  have K1 := C1.k0 hK rfl
  have k37 := K1.k 37 14 (by decide)
  have ll : q_lst ν (b + 37) = q_lst μ (b + 37) := C1.2.2.1 37 (by decide) (by decide)
  have len0 : (q_lst μ (b + 37)).length = dT (sD s) := hD.2.2.1
  rw [wp_bn, xgP11_7 K1, wp_bn, xpL_37 K1, wp_bn]
  refine q_wp_mono (ls_add C1.1 k37 (by rw [G1.1]; omega) R1 (by rw [ll]; omega)) ?_
  rintro _ ρ ⟨_, u⟩
  have CDr : CDx ρ b (q_nD (sD s) (vN (sM s)) (nP s) (fun _ => 0) (fun _ _ => 0)) := dayDx hK hW hD hID hν u
  have Cu := u.cs K1
  have K2 := Cu.k0 K1 rfl
  have O6 : offN (sO s).1 6 = [] := offN_6 fun x hx => (hO.2.2.2.1 x hx).2.2
  have hC2 := C1.tr Cu
  have M2 : q_CM ρ b (sM s) := hM.fr hC2.2.1 (hC2.2.2.1 33 (by decide) (by decide)) rfl
  have L2 : q_CL ρ b (sG s) := hL.fr hC2.2.1 (fun i hi => hC2.2.2.1 _ (lgO_lo hi) (lgNo (by decide) hi)) rfl
  have O2 : q_CO ρ b ([], (sO s).2) := by
    rw [← O6]
    exact O1.fr Cu.2.1 (fun i hi s => Cu.2.2.1 _ (sdO_lo hi s) (sdNo (by decide) hi s)) rfl
  have U2 : CU ρ b (sU s) := hU.fr hC2.2.1 (hC2.2.2.1 5 (by decide) (by decide)) rfl
  have t2 : mI ρ 712 b = q_i3 (dT (sD s)) := by rw [hC2.2.1.i 712 rfl]; exact hD.1
  have hIL := hI.2.1
  have hnt := hIT.1
  have eP : lpv (q_nD (sD s) (vN (sM s)) (nP s) (fun _ => 0) (fun _ _ => 0)) = fun j => pz (nP s j) := funext fun j => nD_lpv hID
  refine c_nightL (s := wO s ([], (sO s).2)) (nt := (sT s).1) (c := c) (B := 100 * c) (by omega) (by omega) K2 Cu.1 M2 L2 O2 CDr U2 t2 hI.1.b hIL ?_
  rw [eP]
  obtain ⟨i1, l1, v1, z1⟩ := nmL_ok (ru := sU s) (T := q_i3 (dT (sD s))) (P := fun j => pz (nP s j)) (s := wO s ([], (sO s).2)) (B := 100 * c) (nt := (sT s).1) (c := c) (by omega) hI.1.b hIL (vN (sM s)) (Nat.le_refl _)
  have eR : nmL (sU s) (q_i3 (dT (sD s))) (fun j => pz (nP s j)) (vN (sM (wO s ([], (sO s).2)))) (wO s ([], (sO s).2)) = nR s := rfl
  rw [eR]
  have eR' : nmL (sU s) (q_i3 (dT (sD s))) (fun j => pz (nP s j)) (vN (sM s)) (wO s ([], (sO s).2)) = nR s := rfl
  rw [eR'] at i1 l1 v1 z1
  obtain ⟨R, eRR⟩ : ∃ R, R = nR s := ⟨_, rfl⟩
  rw [← eRR] at i1 l1 v1 z1 eF ⊢
  intro σ M3 L3 O3 C3
  have K3 := C3.k0 K2 rfl
  have CD3 : CDx σ b (q_nD (sD s) (vN (sM s)) (nP s) (fun _ => 0) (fun _ _ => 0)) := CDr.fr C3.2.1 (C3.2.2.1 37 (by decide) (by decide)) rfl
  have v1' : vN (sM R.2) = vN (sM s) := v1
  have l2 : q_lst ρ (b + 37) = q_lst μ (b + 37) ++ [r] := by rw [u.2.2.1, ll]
  have edr : dy σ b (dT (sD s)) = r := by unfold dy; rw [C3.2.2.1 37 (by decide) (by decide), l2, ← len0, getD_app2]
  have DOr : DO σ r (vN (sM R.2)) := by
    have := (CD3.2.2 (dT (sD s)) (by show dT (sD s) < dT (sD s) + 1; omega)).1
    rw [edr] at this
    have e1 : dNm (q_nD (sD s) (vN (sM s)) (nP s) (fun _ => 0) (fun _ _ => 0)) (dT (sD s)) = vN (sM s) := by show q_upd (dNm (sD s)) (dT (sD s)) (vN (sM s)) (dT (sD s)) = _; unfold q_upd; rw [if_pos rfl]
    rw [e1, ← v1'] at this; exact this
  rw [wp_bn, xpR11 K3, wp_bn]
  refine q_wp_mono (c_remember K3 C3.1 M3 (by rw [v1']; exact h12) DOr) ?_
  rintro _ τ ⟨md, g1, g2, g3⟩
  have K4 := md.k0 K3
  have CD4 : CDx τ b (q_nD (sD s) (vN (sM s)) (nP s) (fun i => vPd (sM R.2) i - vCs (sM R.2) i) (vPs (sM R.2))) := CDx_set hID K3 C3.1 CD3 md (by rw [edr, ← v1']; exact g1) (by rw [edr]; exact g2) (by rw [edr]; exact g3)
  have t4 : mI τ 712 b = q_i3 (dT (sD s)) := by rw [md.1.i 712 rfl, C3.2.1.i 712 rfl]; exact t2
  rw [wp_bn, xgI11 K4, show mI τ (64 * 11 + 8) b = q_i3 (dT (sD s)) from t4, i3_1, wp_bn, xwI11 K4, wp_rt]
  have md5 : Md [712] τ (sI τ 712 b (q_i3 (dT (sD s) + 1))) := Md.sI (by rw [kk11 K4]; omega)
  have hm := md.tr md5
  have hC5 := hm.cs (b := b) C3.1 rfl
  have hC : Cs NAS NAL 25 (9 + 7 * vN (sM s) + 18 + (3 * ((q_lst ν (b + 37)).length + 1) / 2 + 10)) b μ (sI τ 712 b (q_i3 (dT (sD s) + 1))) := ((hC2.tr C3).tr hC5).wk rfl rfl (by omega) (by omega)
  rw [eF]
  refine ⟨rfl, ?_⟩
  have ts : (sT R.2) = sT s := by unfold sT; rw [z1]; rfl
  have rs : (sR R.2) = sR s := by unfold sR; rw [z1]; rfl
  have ns : (q_sN R.2) = q_sN s := by unfold q_sN; rw [z1]; rfl
  have us : (sU R.2) = sU s := by unfold sU; rw [z1]; rfl
  have ps : (sP' R.2) = sP' s := by unfold sP'; rw [z1]; rfl
  have os : (sO R.2) = ([], (sO s).2) := by unfold sO; rw [z1]; rfl
  have l5 := (hm.wf C3.1 rfl).2
  refine cOK.of hK (S := NAS) (Ls := NAL) ⟨?_, ?_, ?_, ?_, ?_, ?_, ?_, ?_, ?_⟩ hC rfl rfl (by omega) (by rw [ll, len0]; omega)
  · exact M3.fr hm.1 (by rw [l5]) rfl
  · exact L3.fr hm.1 (fun i hi => by rw [l5]) rfl
  · show q_CO _ b (sO R.2)
    rw [os]; exact O3.fr hm.1 (fun i hi s => by rw [l5]) rfl
  · show CT _ b (sT R.2)
    rw [ts]; exact hT.fr hC.2.1 (hC.2.2.1 34 (by decide) (by decide)) rfl
  · have x5 : CDx (sI τ 712 b (q_i3 (dT (sD s) + 1))) b (q_nD (sD s) (vN (sM s)) (nP s) (fun i => vPd (sM R.2) i - vCs (sM R.2) i) (vPs (sM R.2))) := CD4.fr md5.1 (by rw [(md5.wf (md.wf C3.1 rfl).1 rfl).2]) rfl
    refine ⟨?_, x5⟩
    rw [mI_sI', if_pos ⟨rfl, rfl⟩]; rfl
  · show CR _ b (sR R.2)
    rw [rs]; exact hR.fr hC.2.1 (hC.2.2.1 35 (by decide) (by decide)) rfl
  · show q_CN _ b (q_sN R.2)
    rw [ns]; exact hN.fr hC.2.1 (hC.2.2.1 36 (by decide) (by decide)) rfl
  · show CU _ b (sU R.2)
    rw [us]; exact hU.fr hC.2.1 (hC.2.2.1 5 (by decide) (by decide)) rfl
  · show CP _ b (sP' R.2)
    rw [ps]; exact hP.fr hC.2.1 rfl

theorem i3_rem {n a : Nat} (ha : a < n) (hn : n ≤ 12) : q_i3 (a + 1) - q_i3 (a + 1) / q_i3 n * q_i3 n = q_i3 (inc1 n a) := by
  have key : ∀ n : Fin 13, ∀ a : Fin 12, a.1 < n.1 → q_i3 (a.1 + 1) - q_i3 (a.1 + 1) / q_i3 n.1 * q_i3 n.1 = q_i3 (inc1 n.1 a.1) := by decide
  exact key ⟨n, by omega⟩ ⟨a, by omega⟩ ha
theorem q_RM.cl {μ : Mem} {b i : Nat} {v : q_VM} (h : q_RM μ b v) (x : Int32) : q_RM (tI μ 218 (b + 46) i x) b (setCl v i x) := by
  refine ⟨h.1, fun j hj => ?_⟩
  obtain ⟨q1, q2, q3, q_q4, q5⟩ := h.2 j hj
  refine ⟨q1, ?_, ?_, q_q4, ?_⟩
  · show _ = q_upd (vCl v) i x j
    rw [aI_tI']; unfold q_upd
    by_cases hji : j = i
    · rw [if_pos hji, if_pos ⟨rfl, rfl, hji⟩]
    · rw [if_neg hji, if_neg (fun z => hji z.2.2)]; exact q2
  · rw [(q_Fr.tI μ 218 (b + 46) i x).ai 226 rfl]; exact q3
  · rw [(q_Fr.tI μ 218 (b + 46) i x).ai 232 rfl]; exact q5
theorem q_RM.fa {μ : Mem} {b i : Nat} {v : q_VM} (h : q_RM μ b v) (x : Int32) : q_RM (tI μ 226 (b + 47) i x) b (setFa v i x) := by
  refine ⟨h.1, fun j hj => ?_⟩
  obtain ⟨q1, q2, q3, q_q4, q5⟩ := h.2 j hj
  refine ⟨q1, ?_, ?_, q_q4, ?_⟩
  · rw [(q_Fr.tI μ 226 (b + 47) i x).ai 218 rfl]; exact q2
  · show _ = q_upd (vFa v) i x j
    rw [aI_tI']; unfold q_upd
    by_cases hji : j = i
    · rw [if_pos hji, if_pos ⟨rfl, rfl, hji⟩]
    · rw [if_neg hji, if_neg (fun z => hji z.2.2)]; exact q3
  · rw [(q_Fr.tI μ 226 (b + 47) i x).ai 232 rfl]; exact q5
def RFS : List Nat := [2248, 2256, 2264, 2232, 2241]
theorem r_nextL {b x j n : Nat} {v : q_VM} {μ : Mem} {lg x4 : Int32} {k16 : Nat → Int32 → Int32 → M Unit} {k32 : Nat → Int32 → Int32 → Int32 → Int32 → M Unit} {Q : Unit → Mem → Prop} (hK : K0 μ b) (hM : q_RM μ b v) (hn : vN v = n) (h12 : n ≤ 12) (hj : j < 6) (hlg : lg = 0 ∨ lg = 1) : ∀ (d a k f : Nat), k + d = n → a < n → fd v j lg n d a → d < f → q_wp (F_X12_fail_L136 k16 k32 (b + 38) (q_i3 x) (q_i3 j) x4 lg (q_i3 (nxo v j lg n d a))) μ Q →
    q_wp (F_X12_fail_L72 k16 k32 f (b + 38) (q_i3 x) (q_i3 j) x4 lg (q_i3 (inc1 n a)) (q_i3 k)) μ Q := by
  intro d
  have z0 : (0 : Int32).toInt = 0 := rfl
  have g10 : mI μ (64 * 12 + 10) (b + 38) = q_i3 n := by rw [← hn]; exact hM.1
  induction d with
  | zero => intro a k f _ _ h; exact absurd h id
  | succ d ih =>
    intro a k f hk ha h hf hQ
    obtain ⟨f, rfl⟩ : ∃ g, f = g + 1 := ⟨f - 1, by omega⟩
    have hy := inc1_lt ha
    have ps : aI μ 232 (b + 48) (6 * inc1 n a + j) = vPs v (inc1 n a) j := (hM.2 _ (by omega)).2.2.2.2 j hj
    have enx : nxo v j lg n (d + 1) a = if agn v j lg (inc1 n a) then inc1 n a else nxo v j lg n d (inc1 n a) := rfl
    have stay : agn v j lg (inc1 n a) → q_wp (F_X12_fail_L136 k16 k32 (b + 38) (q_i3 x) (q_i3 j) x4 lg (q_i3 (inc1 n a))) μ Q := by
      intro e; rw [enx, if_pos e] at hQ; exact hQ
    have go : ¬ agn v j lg (inc1 n a) → q_wp (F_X12_fail_L119 k16 k32 (F_X12_fail_L72 k16 k32 f) (b + 38) (q_i3 x) (q_i3 j) x4 lg (q_i3 (inc1 n a)) (q_i3 k)) μ Q := by
      intro e
      rw [enx, if_neg e] at hQ
      unfold F_X12_fail_L119
      rw [wp_bn, xgI12 hK, g10, wp_bn, wp_rmI]
      refine ⟨fun z => by have := (i3_eq (b := 0) (by omega) (by omega)).mp z; omega, ?_⟩
      rw [i3_1, i3_1, i3_rem hy h12]
      exact ih (inc1 n a) (k + 1) f (by omega) hy (h.resolve_left e) (by omega) hQ
    have b1 : 6 * inc1 n a + j < 72 := by omega
    unfold F_X12_fail_L72
    rw [wp_bn, xgI12 hK, g10, wp_ite, if_neg (fun z => by have := (i3_le (by omega) (by omega)).mp z; omega), wp_ite]
    rcases hlg with rfl | rfl
    · rw [if_pos rfl]
      simp (maxSteps := 2000000) (disch := first | assumption | omega | (simp only [K0_sI, K0_sL, K0_tI, K0_tL, K0_nE]; assumption)) only [wp_bn, xgI11, xgL11, xwI11, xpR11, xgI4, xgL4, xwI4, xpR4, xgI7, xgL7, xwI7, xpR7, xgI12, xgL12, xwI12, xpR12, xgP11_0, xgP11_1, xgP11_2, xgP11_3, xgP11_4, xgP11_5, xgP11_6, xgP11_7, xgP4_0, xl115, xs115, xgP4_9, xl120, xs120, xgP7_0, xgP7_1, xl136, xs136, xgP7_2, xl144, xs144, xgP12_0, xl160, xs160, xgP12_4, xl168, xs168, xgP12_5, xl176, xs176, xgP12_6, xl184, xs184, xgP12_7, xl192, xs192, xgP12_8, xl200, xs200, xgP12_11, xl209, xs209, xgP12_12, xl218, xs218, xgP12_13, xl226, xs226, xgP12_14, xl232, xs232, xgP12_15, xl241, xs241, xgP12_16, xl248, xs248, xgP12_17, xl256, xs256, xgP12_18, xl264, xs264, xgP12_19, xl274, xs274, xgP12_20, xl280, xs280, xgP12_22, xl288, xs288, xgP12_25, xl296, xs296, xgP12_26, xl305, xs305, xgP12_27, xl312, xs312, xgP12_28, xl321, xs321, xgP12_29, xl328, xs328, xgP12_31, xl336, xs336, xgP12_33, xl344, xs344, xgP12_46, xl352, xs352, xgP12_47, xl360, xs360, xgP2_0, xpL2_0, xgP2_1, xpL2_1, xgP2_2, xpL2_2, xgI2, xwZ2, xpR2, xmo, xpL_5, xpL_33, xpL_34, xpL_35, xpL_36, xpL_37, i3m2, i3m4, i3m5, i3m6, i3m7, i3m12, i3m60, i3m72, i3m1600, i3r6, i3p1, i3p2, i3p3, i3p4, i3p5, i3p6, i3p7, i3p8, i3p9, i3p20, i3_add, i3_mul, i3_toNat, inA_i3, i3_lt, i3_le, i3_eq, Nat.reduceMul, Nat.reduceAdd, b1, true_and, ps, wp_ite]
      by_cases e : 0 < vPs v (inc1 n a) j
      · rw [if_pos e]; refine stay ?_; unfold agn; rw [if_pos rfl]; rw [Int32.lt_iff_toInt_lt, z0] at e; exact e
      · rw [if_neg e]; refine go ?_; unfold agn; rw [if_pos rfl]; rw [Int32.lt_iff_toInt_lt, z0] at e; exact e
    · rw [if_neg (by decide)]
      simp (maxSteps := 2000000) (disch := first | assumption | omega | (simp only [K0_sI, K0_sL, K0_tI, K0_tL, K0_nE]; assumption)) only [wp_bn, xgI11, xgL11, xwI11, xpR11, xgI4, xgL4, xwI4, xpR4, xgI7, xgL7, xwI7, xpR7, xgI12, xgL12, xwI12, xpR12, xgP11_0, xgP11_1, xgP11_2, xgP11_3, xgP11_4, xgP11_5, xgP11_6, xgP11_7, xgP4_0, xl115, xs115, xgP4_9, xl120, xs120, xgP7_0, xgP7_1, xl136, xs136, xgP7_2, xl144, xs144, xgP12_0, xl160, xs160, xgP12_4, xl168, xs168, xgP12_5, xl176, xs176, xgP12_6, xl184, xs184, xgP12_7, xl192, xs192, xgP12_8, xl200, xs200, xgP12_11, xl209, xs209, xgP12_12, xl218, xs218, xgP12_13, xl226, xs226, xgP12_14, xl232, xs232, xgP12_15, xl241, xs241, xgP12_16, xl248, xs248, xgP12_17, xl256, xs256, xgP12_18, xl264, xs264, xgP12_19, xl274, xs274, xgP12_20, xl280, xs280, xgP12_22, xl288, xs288, xgP12_25, xl296, xs296, xgP12_26, xl305, xs305, xgP12_27, xl312, xs312, xgP12_28, xl321, xs321, xgP12_29, xl328, xs328, xgP12_31, xl336, xs336, xgP12_33, xl344, xs344, xgP12_46, xl352, xs352, xgP12_47, xl360, xs360, xgP2_0, xpL2_0, xgP2_1, xpL2_1, xgP2_2, xpL2_2, xgI2, xwZ2, xpR2, xmo, xpL_5, xpL_33, xpL_34, xpL_35, xpL_36, xpL_37, i3m2, i3m4, i3m5, i3m6, i3m7, i3m12, i3m60, i3m72, i3m1600, i3r6, i3p1, i3p2, i3p3, i3p4, i3p5, i3p6, i3p7, i3p8, i3p9, i3p20, i3_add, i3_mul, i3_toNat, inA_i3, i3_lt, i3_le, i3_eq, Nat.reduceMul, Nat.reduceAdd, b1, true_and, ps, wp_ite]
      by_cases e : vPs v (inc1 n a) j < 0
      · rw [if_pos e]; refine stay ?_; unfold agn; rw [if_neg (by decide)]; rw [Int32.lt_iff_toInt_lt, z0] at e; exact e
      · rw [if_neg e]; refine go ?_; unfold agn; rw [if_neg (by decide)]; rw [Int32.lt_iff_toInt_lt, z0] at e; exact e
theorem r_cloL {b x j c nt : Nat} {B : Int} {P : Nat → Int32} {lg : Int32} {k16 : Nat → Int32 → Int32 → M Unit} {Q : Unit → Mem → Prop} (hB : B ≤ 1000000000) (hc : nt + c ≤ 1500) (hj : j < 6) (hlg : lg = 0 ∨ lg = 1) : ∀ (k : Nat) (s : q_St) (μ : Mem) (a f : Nat), K0 μ b → q_RM μ b (sM s) → q_RL μ b (sG s) → (∀ i, i < 6 → aI μ 360 (b + 64) i = P i) → IMb (sM s) B → q_IL (sG s) (vN (sM s)) nt c → x < vN (sM s) → a < vN (sM s) → stands (sM s) x j lg k → k < f →
    (∀ ν, q_RM ν b (sM (clo x j lg (P j) k a s)) → q_RL ν b (sG (clo x j lg (P j) k a s)) → Md RFS μ ν → q_wp (k16 (b + 38) (q_i3 x) (q_i3 j + 1)) ν Q) →
    q_wp (F_X12_fail_L32 k16 f (b + 38) (q_i3 x) (q_i3 j) (q_i3 a) (q_i3 (6 * x + j))) μ Q := by
  intro k
  have z0 : (0 : Int32).toInt = 0 := rfl
  induction k with
  | zero =>
    intro s μ a f hK hM hL hP hI hIL hx ha hp hf hQ
    obtain ⟨f, rfl⟩ : ∃ g, f = g + 1 := ⟨f - 1, by omega⟩
    have h12 := hI.1
    have ps : aI μ 232 (b + 48) (6 * x + j) = vPs (sM s) x j := (hM.2 x (by omega)).2.2.2.2 j hj
    have e0 : vPs (sM s) x j = 0 := by
      apply Int32.toInt_inj.mp; rw [z0]; unfold stands at hp; split at hp <;> omega
    have b1 : 6 * x + j < 72 := by omega
    unfold F_X12_fail_L32
    simp (maxSteps := 2000000) (disch := first | assumption | omega | (simp only [K0_sI, K0_sL, K0_tI, K0_tL, K0_nE]; assumption)) only [wp_bn, xgI11, xgL11, xwI11, xpR11, xgI4, xgL4, xwI4, xpR4, xgI7, xgL7, xwI7, xpR7, xgI12, xgL12, xwI12, xpR12, xgP11_0, xgP11_1, xgP11_2, xgP11_3, xgP11_4, xgP11_5, xgP11_6, xgP11_7, xgP4_0, xl115, xs115, xgP4_9, xl120, xs120, xgP7_0, xgP7_1, xl136, xs136, xgP7_2, xl144, xs144, xgP12_0, xl160, xs160, xgP12_4, xl168, xs168, xgP12_5, xl176, xs176, xgP12_6, xl184, xs184, xgP12_7, xl192, xs192, xgP12_8, xl200, xs200, xgP12_11, xl209, xs209, xgP12_12, xl218, xs218, xgP12_13, xl226, xs226, xgP12_14, xl232, xs232, xgP12_15, xl241, xs241, xgP12_16, xl248, xs248, xgP12_17, xl256, xs256, xgP12_18, xl264, xs264, xgP12_19, xl274, xs274, xgP12_20, xl280, xs280, xgP12_22, xl288, xs288, xgP12_25, xl296, xs296, xgP12_26, xl305, xs305, xgP12_27, xl312, xs312, xgP12_28, xl321, xs321, xgP12_29, xl328, xs328, xgP12_31, xl336, xs336, xgP12_33, xl344, xs344, xgP12_46, xl352, xs352, xgP12_47, xl360, xs360, xgP2_0, xpL2_0, xgP2_1, xpL2_1, xgP2_2, xpL2_2, xgI2, xwZ2, xpR2, xmo, xpL_5, xpL_33, xpL_34, xpL_35, xpL_36, xpL_37, i3m2, i3m4, i3m5, i3m6, i3m7, i3m12, i3m60, i3m72, i3m1600, i3r6, i3p1, i3p2, i3p3, i3p4, i3p5, i3p6, i3p7, i3p8, i3p9, i3p20, i3_add, i3_mul, i3_toNat, inA_i3, i3_lt, i3_le, i3_eq, Nat.reduceMul, Nat.reduceAdd, b1, true_and, ps, e0, wp_ite, if_true]
    rw [← i3_1]
    exact hQ μ hM hL ((Md.rf μ).wk rfl)
  | succ k ih =>
    intro s μ a f hK hM hL hP hI hIL hx ha hp hf hQ
    obtain ⟨f, rfl⟩ : ∃ g, f = g + 1 := ⟨f - 1, by omega⟩
    have h12 := hI.1
    obtain ⟨hfd, n2, b1, s1, mx, q1, q2, q3, q_q4, q5, q6, q7, q8⟩ := clo_step (p := P j) hI hIL hB hx hj ha hlg hp
    have ps : aI μ 232 (b + 48) (6 * x + j) = vPs (sM s) x j := (hM.2 x (by omega)).2.2.2.2 j hj
    have e0 : ¬ vPs (sM s) x j = 0 := fun z => by unfold stands at hp; rw [z, z0] at hp; split at hp <;> omega
    have bb : 6 * x + j < 72 := by omega
    have core : q_wp (bn (gP 12 47 (some (b + 38))) fun v14 => bn (lI 360 v14 (q_i3 j)) fun v15 => bn (pRc 12 (some (b + 38))) fun b16 => bn (F_X12_move b16 (q_i3 (byr lg x (nxS s j lg a))) (q_i3 (slr lg x (nxS s j lg a))) (q_i3 j) v15 (1 : Int32)) fun _ => F_X12_fail_L32 k16 f (b + 38) (q_i3 x) (q_i3 j) (q_i3 (nxS s j lg a)) (q_i3 (6 * x + j))) μ Q := by
      simp (maxSteps := 2000000) (disch := first | assumption | omega | (simp only [K0_sI, K0_sL, K0_tI, K0_tL, K0_nE]; assumption)) only [wp_bn, xgI11, xgL11, xwI11, xpR11, xgI4, xgL4, xwI4, xpR4, xgI7, xgL7, xwI7, xpR7, xgI12, xgL12, xwI12, xpR12, xgP11_0, xgP11_1, xgP11_2, xgP11_3, xgP11_4, xgP11_5, xgP11_6, xgP11_7, xgP4_0, xl115, xs115, xgP4_9, xl120, xs120, xgP7_0, xgP7_1, xl136, xs136, xgP7_2, xl144, xs144, xgP12_0, xl160, xs160, xgP12_4, xl168, xs168, xgP12_5, xl176, xs176, xgP12_6, xl184, xs184, xgP12_7, xl192, xs192, xgP12_8, xl200, xs200, xgP12_11, xl209, xs209, xgP12_12, xl218, xs218, xgP12_13, xl226, xs226, xgP12_14, xl232, xs232, xgP12_15, xl241, xs241, xgP12_16, xl248, xs248, xgP12_17, xl256, xs256, xgP12_18, xl264, xs264, xgP12_19, xl274, xs274, xgP12_20, xl280, xs280, xgP12_22, xl288, xs288, xgP12_25, xl296, xs296, xgP12_26, xl305, xs305, xgP12_27, xl312, xs312, xgP12_28, xl321, xs321, xgP12_29, xl328, xs328, xgP12_31, xl336, xs336, xgP12_33, xl344, xs344, xgP12_46, xl352, xs352, xgP12_47, xl360, xs360, xgP2_0, xpL2_0, xgP2_1, xpL2_1, xgP2_2, xpL2_2, xgI2, xwZ2, xpR2, xmo, xpL_5, xpL_33, xpL_34, xpL_35, xpL_36, xpL_37, i3m2, i3m4, i3m5, i3m6, i3m7, i3m12, i3m60, i3m72, i3m1600, i3r6, i3p1, i3p2, i3p3, i3p4, i3p5, i3p6, i3p7, i3p8, i3p9, i3p20, i3_add, i3_mul, i3_toNat, inA_i3, i3_lt, i3_le, i3_eq, Nat.reduceMul, Nat.reduceAdd, hj, true_and, hP j hj]
      refine q_wp_mono (r_move (nt := nt) (c := c) (p := P j) (lots := 1) hK hM hL (by omega) (by omega) hj ⟨by decide, by decide⟩ (fun i hi => by have := (hIL i hi).1; omega) (fun q hq => ((hIL j hj).2.1 q hq).2.1)) ?_
      rintro _ ν ⟨M1, L1, md⟩
      refine ih (cloS s x j lg (P j) a) ν (nxS s j lg a) f (md.k0 hK) M1 L1 (fun i hi => by rw [md.1.ai 360 rfl]; exact hP i hi) q1 (by rw [q3]; exact q2) (by rw [q3]; exact hx) (by rw [q3]; exact n2) q_q4 (by omega) ?_
      intro ρ M2 L2 md2
      exact hQ ρ M2 L2 ((md.tr md2).wk rfl)
    have L57 : q_wp (F_X12_fail_L57 k16 (F_X12_fail_L32 k16 f) (b + 38) (q_i3 x) (q_i3 j) (q_i3 a) (q_i3 (6 * x + j)) lg) μ Q := by
      unfold F_X12_fail_L57
      rw [wp_bn, xgI12 hK, show mI μ (64 * 12 + 10) (b + 38) = q_i3 (vN (sM s)) from hM.1, wp_bn, wp_rmI]
      refine ⟨fun z => by have := (i3_eq (b := 0) (by omega) (by omega)).mp z; omega, ?_⟩
      rw [i3_1, i3_rem ha h12]
      refine r_nextL hK hM rfl h12 hj hlg (vN (sM s)) a 0 FU (by omega) ha hfd (by show _ < 100000; omega) ?_
      rw [show nxo (sM s) j lg (vN (sM s)) (vN (sM s)) a = nxS s j lg a from rfl]
      unfold F_X12_fail_L136 F_X12_fail_L151 F_X12_fail_L162
      rcases hlg with rfl | rfl
      · rw [wp_ite, if_pos rfl, wp_ite, if_pos rfl]
        exact core
      · rw [wp_ite, if_neg (by decide), wp_ite, if_neg (by decide)]
        exact core
    unfold F_X12_fail_L32
    simp (maxSteps := 2000000) (disch := first | assumption | omega | (simp only [K0_sI, K0_sL, K0_tI, K0_tL, K0_nE]; assumption)) only [wp_bn, xgI11, xgL11, xwI11, xpR11, xgI4, xgL4, xwI4, xpR4, xgI7, xgL7, xwI7, xpR7, xgI12, xgL12, xwI12, xpR12, xgP11_0, xgP11_1, xgP11_2, xgP11_3, xgP11_4, xgP11_5, xgP11_6, xgP11_7, xgP4_0, xl115, xs115, xgP4_9, xl120, xs120, xgP7_0, xgP7_1, xl136, xs136, xgP7_2, xl144, xs144, xgP12_0, xl160, xs160, xgP12_4, xl168, xs168, xgP12_5, xl176, xs176, xgP12_6, xl184, xs184, xgP12_7, xl192, xs192, xgP12_8, xl200, xs200, xgP12_11, xl209, xs209, xgP12_12, xl218, xs218, xgP12_13, xl226, xs226, xgP12_14, xl232, xs232, xgP12_15, xl241, xs241, xgP12_16, xl248, xs248, xgP12_17, xl256, xs256, xgP12_18, xl264, xs264, xgP12_19, xl274, xs274, xgP12_20, xl280, xs280, xgP12_22, xl288, xs288, xgP12_25, xl296, xs296, xgP12_26, xl305, xs305, xgP12_27, xl312, xs312, xgP12_28, xl321, xs321, xgP12_29, xl328, xs328, xgP12_31, xl336, xs336, xgP12_33, xl344, xs344, xgP12_46, xl352, xs352, xgP12_47, xl360, xs360, xgP2_0, xpL2_0, xgP2_1, xpL2_1, xgP2_2, xpL2_2, xgI2, xwZ2, xpR2, xmo, xpL_5, xpL_33, xpL_34, xpL_35, xpL_36, xpL_37, i3m2, i3m4, i3m5, i3m6, i3m7, i3m12, i3m60, i3m72, i3m1600, i3r6, i3p1, i3p2, i3p3, i3p4, i3p5, i3p6, i3p7, i3p8, i3p9, i3p20, i3_add, i3_mul, i3_toNat, inA_i3, i3_lt, i3_le, i3_eq, Nat.reduceMul, Nat.reduceAdd, bb, true_and, ps, e0, wp_ite, if_false]
    by_cases e : vPs (sM s) x j ≤ 0
    · rw [if_pos e]
      have : lg = 0 := by
        rcases hlg with h | h
        · exact h
        · unfold stands at hp; rw [h, if_neg (by decide)] at hp; rw [Int32.le_iff_toInt_le, z0] at e; omega
      rw [← this]; exact L57
    · rw [if_neg e]
      have : lg = 1 := by
        rcases hlg with h | h
        · unfold stands at hp; rw [if_pos h] at hp; rw [Int32.le_iff_toInt_le, z0] at e; omega
        · exact h
      rw [← this]; exact L57
theorem r_months {b x c nt : Nat} {B : Int} {P : Nat → Int32} {s : q_St} {μ : Mem} (hB : B ≤ 90000) (hc : nt + c ≤ 1500) (hK : K0 μ b) (hM : q_RM μ b (sM s)) (hL : q_RL μ b (sG s)) (hP : ∀ i, i < 6 → aI μ 360 (b + 64) i = P i) (hI : IMb (sM s) B) (hIL : q_IL (sG s) (vN (sM s)) nt c) (hx : x < vN (sM s)) :
    q_wp (F_X12_fail_L16 FU (b + 38) (q_i3 x) 0) μ (fun _ ν => q_RM ν b (sM (cloA P x 6 s)) ∧ q_RL ν b (sG (cloA P x 6 s)) ∧ Md RFS μ ν) := by
  have h12 := hI.1
  refine wp_loop (σ := Unit) (fun f k _ => F_X12_fail_L16 f (b + 38) (q_i3 x) (q_i3 k)) 6 (fun k _ ν => q_RM ν b (sM (cloA P x k s)) ∧ q_RL ν b (sG (cloA P x k s)) ∧ Md RFS μ ν) _ ?_ ?_ FU 0 () μ (by omega) (by show 6 - 0 < 100000; omega) ⟨hM, hL, (Md.rf μ).wk rfl⟩
  · rintro f _ ν h
    unfold F_X12_fail_L16
    rw [wp_ite, if_pos (by decide), wp_rt]
    exact h
  · rintro f k _ ν hk ⟨M1, L1, md⟩ ih
    show q_wp (F_X12_fail_L16 (f + 1) (b + 38) (q_i3 x) (q_i3 k)) ν _
    obtain ⟨r1, r2, r3, r4, r5, r6, r7⟩ := cloA_ok (P := P) (x := x) (by omega) hI hIL hx k (by omega)
    obtain ⟨st, hlg⟩ := stands_lgX (sM (cloA P x k s)) x k
    have bd := r1.2.2.2.1 x (by omega) k hk
    unfold F_X12_fail_L16
    rw [wp_ite, if_neg (fun z => by have := (i3_le (a := 6) (by omega) (by omega)).mp z; omega), i3m6, i3_add]
    refine r_cloL (B := B) (nt := nt) (c := c) (P := P) (by omega) hc hk hlg _ (cloA P x k s) ν x FU (md.k0 hK) M1 L1 (fun i hi => by rw [md.1.ai 360 rfl]; exact hP i hi) r1 (by rw [r3]; exact r2) (by rw [r3]; exact hx) (by rw [r3]; exact hx) st (by show _ < 100000; omega) ?_
    intro ρ M2 L2 md2
    rw [i3_1]
    exact ih () ρ ⟨M2, L2, (md.tr md2).wk rfl⟩

def RNS : List Nat := [2248, 2256, 2264, 2232, 2241, 2218, 2226, 2352, 812, 813]
theorem nar0 : vp_nar .boolean (0 : Int32) = 0 := by rw [q_nar_z]; decide
theorem nar1 : vp_nar .boolean (1 : Int32) = 1 := by rw [q_nar_z]; decide
theorem r_night1 {b x c nt : Nat} {ru : List q_Ru} {T x1 : Int32} {B : Int} {P : Nat → Int32} {s : q_St} {μ : Mem} {f : Nat} {Q : Int32 → Mem → Prop} (hB : B ≤ 90000) (hc : nt + c ≤ 1500) (hK : K0 μ b) (hM : q_RM μ b (sM s)) (hL : q_RL μ b (sG s)) (hU : RU μ b ru) (hT : mI μ 792 (b + 38) = T) (hP : ∀ i, i < 6 → aI μ 360 (b + 64) i = P i) (hI : IMb (sM s) B) (hIL : q_IL (sG s) (vN (sM s)) nt c) (hx : x < vN (sM s))
    (hQ : ∀ ν, q_RM ν b (sM (nmS ru T P x s).2) → q_RL ν b (sG (nmS ru T P x s).2) → Md RNS μ ν → q_wp (F_X12_night_L149 f (b + 38) (x1 + (nmS ru T P x s).1) (q_i3 (x + 1))) ν Q) :
    q_wp (F_X12_night_L149 (f + 1) (b + 38) x1 (q_i3 x)) μ Q := by
  have h12 := hI.1
  obtain ⟨p1, p2, p3, p4, p5⟩ := hM.2 x (by omega)
  obtain ⟨R, eR⟩ : ∃ R, R = nmS ru T P x s := ⟨_, rfl⟩
  rw [← eR] at hQ
  unfold nmS at eR
  have a0 : ∀ y : Int32, y + 0 = y := fun y => by simp
  have x12 : x < 12 := by omega
  have hlt : ¬ q_i3 (vN (sM s)) ≤ q_i3 x := fun z => by have := (i3_le (by omega) (by omega)).mp z; omega
  unfold F_X12_night_L149 F_X12_night_L249
  rw [wp_bn, xgI12 hK, show mI μ (64 * 12 + 10) (b + 38) = q_i3 (vN (sM s)) from hM.1, wp_ite, if_neg hlt]
  simp (maxSteps := 2000000) (disch := first | assumption | omega | (simp only [K0_sI, K0_sL, K0_tI, K0_tL, K0_nE]; assumption)) only [wp_bn, xgI11, xgL11, xwI11, xpR11, xgI4, xgL4, xwI4, xpR4, xgI7, xgL7, xwI7, xpR7, xgI12, xgL12, xwI12, xpR12, xgP11_0, xgP11_1, xgP11_2, xgP11_3, xgP11_4, xgP11_5, xgP11_6, xgP11_7, xgP4_0, xl115, xs115, xgP4_9, xl120, xs120, xgP7_0, xgP7_1, xl136, xs136, xgP7_2, xl144, xs144, xgP12_0, xl160, xs160, xgP12_4, xl168, xs168, xgP12_5, xl176, xs176, xgP12_6, xl184, xs184, xgP12_7, xl192, xs192, xgP12_8, xl200, xs200, xgP12_11, xl209, xs209, xgP12_12, xl218, xs218, xgP12_13, xl226, xs226, xgP12_14, xl232, xs232, xgP12_15, xl241, xs241, xgP12_16, xl248, xs248, xgP12_17, xl256, xs256, xgP12_18, xl264, xs264, xgP12_19, xl274, xs274, xgP12_20, xl280, xs280, xgP12_22, xl288, xs288, xgP12_25, xl296, xs296, xgP12_26, xl305, xs305, xgP12_27, xl312, xs312, xgP12_28, xl321, xs321, xgP12_29, xl328, xs328, xgP12_31, xl336, xs336, xgP12_33, xl344, xs344, xgP12_46, xl352, xs352, xgP12_47, xl360, xs360, xgP2_0, xpL2_0, xgP2_1, xpL2_1, xgP2_2, xpL2_2, xgI2, xwZ2, xpR2, xmo, xpL_5, xpL_33, xpL_34, xpL_35, xpL_36, xpL_37, i3m2, i3m4, i3m5, i3m6, i3m7, i3m12, i3m60, i3m72, i3m1600, i3r6, i3p1, i3p2, i3p3, i3p4, i3p5, i3p6, i3p7, i3p8, i3p9, i3p20, i3_add, i3_mul, i3_toNat, inA_i3, i3_lt, i3_le, i3_eq, Nat.reduceMul, Nat.reduceAdd, x12, true_and, p3, wp_ite]
  by_cases h1 : vFa (sM s) x = 0
  rotate_left
  · rw [if_neg h1]
    rw [if_neg h1] at eR
    have := hQ μ (by rw [eR]; exact hM) (by rw [eR]; exact hL) ((Md.rf μ).wk rfl)
    rw [eR, a0] at this; exact this
  rw [if_pos h1] at eR ⊢
  rw [wp_eq (r_equityOf hK hM hP x12)]
  simp (maxSteps := 2000000) (disch := first | assumption | omega | (simp only [K0_sI, K0_sL, K0_tI, K0_tL, K0_nE]; assumption)) only [xgI11, xgL11, xwI11, xpR11, xgI4, xgL4, xwI4, xpR4, xgI7, xgL7, xwI7, xpR7, xgI12, xgL12, xwI12, xpR12, xgP11_0, xgP11_1, xgP11_2, xgP11_3, xgP11_4, xgP11_5, xgP11_6, xgP11_7, xgP4_0, xl115, xs115, xgP4_9, xl120, xs120, xgP7_0, xgP7_1, xl136, xs136, xgP7_2, xl144, xs144, xgP12_0, xl160, xs160, xgP12_4, xl168, xs168, xgP12_5, xl176, xs176, xgP12_6, xl184, xs184, xgP12_7, xl192, xs192, xgP12_8, xl200, xs200, xgP12_11, xl209, xs209, xgP12_12, xl218, xs218, xgP12_13, xl226, xs226, xgP12_14, xl232, xs232, xgP12_15, xl241, xs241, xgP12_16, xl248, xs248, xgP12_17, xl256, xs256, xgP12_18, xl264, xs264, xgP12_19, xl274, xs274, xgP12_20, xl280, xs280, xgP12_22, xl288, xs288, xgP12_25, xl296, xs296, xgP12_26, xl305, xs305, xgP12_27, xl312, xs312, xgP12_28, xl321, xs321, xgP12_29, xl328, xs328, xgP12_31, xl336, xs336, xgP12_33, xl344, xs344, xgP12_46, xl352, xs352, xgP12_47, xl360, xs360, xgP2_0, xpL2_0, xgP2_1, xpL2_1, xgP2_2, xpL2_2, xgI2, xwZ2, xpR2, xmo, xpL_5, xpL_33, xpL_34, xpL_35, xpL_36, xpL_37]
  refine q_wp_mono (r_need hK hM hU hT hP x12) ?_
  rintro _ ν ⟨rfl, md⟩
  have K1 := md.k0 hK
  have M1 : q_RM ν b (sM s) := hM.fr md.1 rfl
  have L1 : q_RL ν b (sG s) := hL.fr md.1 rfl
  have U1 : RU ν b ru := hU.fr md.1 rfl
  have P1 : ∀ i, i < 6 → aI ν 360 (b + 64) i = P i := fun i hi => by rw [md.1.ai 360 rfl]; exact hP i hi
  have T1 : mI ν 792 (b + 38) = T := by rw [md.1.i 792 rfl]; exact hT
  obtain ⟨r1, r2, r3, r4, r5⟩ := M1.2 x x12
  have kk46 : mK ν (b + 46) ≠ 0 := by rw [K1.k 46 218 (by decide)]; omega
  have kk47 : mK ν (b + 47) ≠ 0 := by rw [K1.k 47 226 (by decide)]; omega
  have cl : ∀ y : Int32, Md [2352, 812, 813, 2218] μ (tI ν 218 (b + 46) x y) := fun y => (md.tr (Md.tI kk46)).wk rfl
  have L218 : (vCl (sM s) x = 0 ∨ ¬ lowW (sM s) ru T P x 1) → q_wp (F_X12_night_L218 (F_X12_night_L149 f) (b + 38) x1 (q_i3 x) (q_worth (sM s) x P)) ν Q := by
    intro hor
    unfold F_X12_night_L218 F_X12_night_L247 F_X12_night_L248 F_X12_night_L249
    simp (maxSteps := 2000000) (disch := first | assumption | omega | (simp only [K0_sI, K0_sL, K0_tI, K0_tL, K0_nE]; assumption)) only [wp_bn, xgI11, xgL11, xwI11, xpR11, xgI4, xgL4, xwI4, xpR4, xgI7, xgL7, xwI7, xpR7, xgI12, xgL12, xwI12, xpR12, xgP11_0, xgP11_1, xgP11_2, xgP11_3, xgP11_4, xgP11_5, xgP11_6, xgP11_7, xgP4_0, xl115, xs115, xgP4_9, xl120, xs120, xgP7_0, xgP7_1, xl136, xs136, xgP7_2, xl144, xs144, xgP12_0, xl160, xs160, xgP12_4, xl168, xs168, xgP12_5, xl176, xs176, xgP12_6, xl184, xs184, xgP12_7, xl192, xs192, xgP12_8, xl200, xs200, xgP12_11, xl209, xs209, xgP12_12, xl218, xs218, xgP12_13, xl226, xs226, xgP12_14, xl232, xs232, xgP12_15, xl241, xs241, xgP12_16, xl248, xs248, xgP12_17, xl256, xs256, xgP12_18, xl264, xs264, xgP12_19, xl274, xs274, xgP12_20, xl280, xs280, xgP12_22, xl288, xs288, xgP12_25, xl296, xs296, xgP12_26, xl305, xs305, xgP12_27, xl312, xs312, xgP12_28, xl321, xs321, xgP12_29, xl328, xs328, xgP12_31, xl336, xs336, xgP12_33, xl344, xs344, xgP12_46, xl352, xs352, xgP12_47, xl360, xs360, xgP2_0, xpL2_0, xgP2_1, xpL2_1, xgP2_2, xpL2_2, xgI2, xwZ2, xpR2, xmo, xpL_5, xpL_33, xpL_34, xpL_35, xpL_36, xpL_37, i3m2, i3m4, i3m5, i3m6, i3m7, i3m12, i3m60, i3m72, i3m1600, i3r6, i3p1, i3p2, i3p3, i3p4, i3p5, i3p6, i3p7, i3p8, i3p9, i3p20, i3_add, i3_mul, i3_toNat, inA_i3, i3_lt, i3_le, i3_eq, Nat.reduceMul, Nat.reduceAdd, x12, true_and, r2, wp_ite]
    by_cases h2 : vCl (sM s) x = 0
    · rw [if_pos h2] at eR
      rw [if_neg (fun z => z h2)]
      refine q_wp_mono (r_need K1 M1 U1 T1 P1 x12) ?_
      rintro _ ρ ⟨rfl, md2⟩
      have K2 := md2.k0 K1
      have M2 : q_RM ρ b (sM s) := M1.fr md2.1 rfl
      have mm := (md.tr md2).tr (Md.tI (k := 218) (a := b + 46) (i := x) (v := if lowW (sM s) ru T P x 2 then 1 else 0) (show mK ρ (b + 46) ≠ 0 by rw [K2.k 46 218 (by decide)]; omega))
      have fin := hQ (tI ρ 218 (b + 46) x (if lowW (sM s) ru T P x 2 then 1 else 0)) (by rw [eR]; exact M2.cl _) (by rw [eR]; exact hL.fr mm.1 rfl) (mm.wk rfl)
      rw [eR, a0] at fin
      by_cases h3 : lowW (sM s) ru T P x 2
      · rw [if_pos h3] at fin
        rw [if_neg (by rw [lgc_ge]; omega)]
        simp (maxSteps := 2000000) (disch := first | assumption | omega | (simp only [K0_sI, K0_sL, K0_tI, K0_tL, K0_nE]; assumption)) only [wp_bn, xgI11, xgL11, xwI11, xpR11, xgI4, xgL4, xwI4, xpR4, xgI7, xgL7, xwI7, xpR7, xgI12, xgL12, xwI12, xpR12, xgP11_0, xgP11_1, xgP11_2, xgP11_3, xgP11_4, xgP11_5, xgP11_6, xgP11_7, xgP4_0, xl115, xs115, xgP4_9, xl120, xs120, xgP7_0, xgP7_1, xl136, xs136, xgP7_2, xl144, xs144, xgP12_0, xl160, xs160, xgP12_4, xl168, xs168, xgP12_5, xl176, xs176, xgP12_6, xl184, xs184, xgP12_7, xl192, xs192, xgP12_8, xl200, xs200, xgP12_11, xl209, xs209, xgP12_12, xl218, xs218, xgP12_13, xl226, xs226, xgP12_14, xl232, xs232, xgP12_15, xl241, xs241, xgP12_16, xl248, xs248, xgP12_17, xl256, xs256, xgP12_18, xl264, xs264, xgP12_19, xl274, xs274, xgP12_20, xl280, xs280, xgP12_22, xl288, xs288, xgP12_25, xl296, xs296, xgP12_26, xl305, xs305, xgP12_27, xl312, xs312, xgP12_28, xl321, xs321, xgP12_29, xl328, xs328, xgP12_31, xl336, xs336, xgP12_33, xl344, xs344, xgP12_46, xl352, xs352, xgP12_47, xl360, xs360, xgP2_0, xpL2_0, xgP2_1, xpL2_1, xgP2_2, xpL2_2, xgI2, xwZ2, xpR2, xmo, xpL_5, xpL_33, xpL_34, xpL_35, xpL_36, xpL_37, i3m2, i3m4, i3m5, i3m6, i3m7, i3m12, i3m60, i3m72, i3m1600, i3r6, i3p1, i3p2, i3p3, i3p4, i3p5, i3p6, i3p7, i3p8, i3p9, i3p20, i3_add, i3_mul, i3_toNat, inA_i3, i3_lt, i3_le, i3_eq, Nat.reduceMul, Nat.reduceAdd, x12, true_and, nar1]
        exact fin
      · rw [if_neg h3] at fin
        rw [if_pos (by rw [lgc_ge]; omega)]
        simp (maxSteps := 2000000) (disch := first | assumption | omega | (simp only [K0_sI, K0_sL, K0_tI, K0_tL, K0_nE]; assumption)) only [wp_bn, xgI11, xgL11, xwI11, xpR11, xgI4, xgL4, xwI4, xpR4, xgI7, xgL7, xwI7, xpR7, xgI12, xgL12, xwI12, xpR12, xgP11_0, xgP11_1, xgP11_2, xgP11_3, xgP11_4, xgP11_5, xgP11_6, xgP11_7, xgP4_0, xl115, xs115, xgP4_9, xl120, xs120, xgP7_0, xgP7_1, xl136, xs136, xgP7_2, xl144, xs144, xgP12_0, xl160, xs160, xgP12_4, xl168, xs168, xgP12_5, xl176, xs176, xgP12_6, xl184, xs184, xgP12_7, xl192, xs192, xgP12_8, xl200, xs200, xgP12_11, xl209, xs209, xgP12_12, xl218, xs218, xgP12_13, xl226, xs226, xgP12_14, xl232, xs232, xgP12_15, xl241, xs241, xgP12_16, xl248, xs248, xgP12_17, xl256, xs256, xgP12_18, xl264, xs264, xgP12_19, xl274, xs274, xgP12_20, xl280, xs280, xgP12_22, xl288, xs288, xgP12_25, xl296, xs296, xgP12_26, xl305, xs305, xgP12_27, xl312, xs312, xgP12_28, xl321, xs321, xgP12_29, xl328, xs328, xgP12_31, xl336, xs336, xgP12_33, xl344, xs344, xgP12_46, xl352, xs352, xgP12_47, xl360, xs360, xgP2_0, xpL2_0, xgP2_1, xpL2_1, xgP2_2, xpL2_2, xgI2, xwZ2, xpR2, xmo, xpL_5, xpL_33, xpL_34, xpL_35, xpL_36, xpL_37, i3m2, i3m4, i3m5, i3m6, i3m7, i3m12, i3m60, i3m72, i3m1600, i3r6, i3p1, i3p2, i3p3, i3p4, i3p5, i3p6, i3p7, i3p8, i3p9, i3p20, i3_add, i3_mul, i3_toNat, inA_i3, i3_lt, i3_le, i3_eq, Nat.reduceMul, Nat.reduceAdd, x12, true_and, nar0]
        exact fin
    · rw [if_neg h2, if_neg (hor.resolve_left h2)] at eR
      rw [if_pos h2]
      simp (maxSteps := 2000000) (disch := first | assumption | omega | (simp only [K0_sI, K0_sL, K0_tI, K0_tL, K0_nE]; assumption)) only [wp_bn, xgI11, xgL11, xwI11, xpR11, xgI4, xgL4, xwI4, xpR4, xgI7, xgL7, xwI7, xpR7, xgI12, xgL12, xwI12, xpR12, xgP11_0, xgP11_1, xgP11_2, xgP11_3, xgP11_4, xgP11_5, xgP11_6, xgP11_7, xgP4_0, xl115, xs115, xgP4_9, xl120, xs120, xgP7_0, xgP7_1, xl136, xs136, xgP7_2, xl144, xs144, xgP12_0, xl160, xs160, xgP12_4, xl168, xs168, xgP12_5, xl176, xs176, xgP12_6, xl184, xs184, xgP12_7, xl192, xs192, xgP12_8, xl200, xs200, xgP12_11, xl209, xs209, xgP12_12, xl218, xs218, xgP12_13, xl226, xs226, xgP12_14, xl232, xs232, xgP12_15, xl241, xs241, xgP12_16, xl248, xs248, xgP12_17, xl256, xs256, xgP12_18, xl264, xs264, xgP12_19, xl274, xs274, xgP12_20, xl280, xs280, xgP12_22, xl288, xs288, xgP12_25, xl296, xs296, xgP12_26, xl305, xs305, xgP12_27, xl312, xs312, xgP12_28, xl321, xs321, xgP12_29, xl328, xs328, xgP12_31, xl336, xs336, xgP12_33, xl344, xs344, xgP12_46, xl352, xs352, xgP12_47, xl360, xs360, xgP2_0, xpL2_0, xgP2_1, xpL2_1, xgP2_2, xpL2_2, xgI2, xwZ2, xpR2, xmo, xpL_5, xpL_33, xpL_34, xpL_35, xpL_36, xpL_37, i3m2, i3m4, i3m5, i3m6, i3m7, i3m12, i3m60, i3m72, i3m1600, i3r6, i3p1, i3p2, i3p3, i3p4, i3p5, i3p6, i3p7, i3p8, i3p9, i3p20, i3_add, i3_mul, i3_toNat, inA_i3, i3_lt, i3_le, i3_eq, Nat.reduceMul, Nat.reduceAdd, x12, true_and, nar0]
      have fin := hQ (tI ν 218 (b + 46) x 0) (by rw [eR]; exact M1.cl _) (by rw [eR]; exact hL.fr (cl 0).1 rfl) ((cl 0).wk rfl)
      rw [eR, a0] at fin
      exact fin
  have L191 : ∀ y0 : Int32, (lowW (sM s) ru T P x 1 → y0 = 1) → (¬ lowW (sM s) ru T P x 1 → y0 = 0) → q_wp (F_X12_night_L191 (F_X12_night_L149 f) (b + 38) x1 (q_i3 x) (q_worth (sM s) x P) y0) ν Q := by
    intro y0 hy1 hy0
    unfold F_X12_night_L191 F_X12_night_L249
    simp (maxSteps := 2000000) (disch := first | assumption | omega | (simp only [K0_sI, K0_sL, K0_tI, K0_tL, K0_nE]; assumption)) only [wp_bn, xgI11, xgL11, xwI11, xpR11, xgI4, xgL4, xwI4, xpR4, xgI7, xgL7, xwI7, xpR7, xgI12, xgL12, xwI12, xpR12, xgP11_0, xgP11_1, xgP11_2, xgP11_3, xgP11_4, xgP11_5, xgP11_6, xgP11_7, xgP4_0, xl115, xs115, xgP4_9, xl120, xs120, xgP7_0, xgP7_1, xl136, xs136, xgP7_2, xl144, xs144, xgP12_0, xl160, xs160, xgP12_4, xl168, xs168, xgP12_5, xl176, xs176, xgP12_6, xl184, xs184, xgP12_7, xl192, xs192, xgP12_8, xl200, xs200, xgP12_11, xl209, xs209, xgP12_12, xl218, xs218, xgP12_13, xl226, xs226, xgP12_14, xl232, xs232, xgP12_15, xl241, xs241, xgP12_16, xl248, xs248, xgP12_17, xl256, xs256, xgP12_18, xl264, xs264, xgP12_19, xl274, xs274, xgP12_20, xl280, xs280, xgP12_22, xl288, xs288, xgP12_25, xl296, xs296, xgP12_26, xl305, xs305, xgP12_27, xl312, xs312, xgP12_28, xl321, xs321, xgP12_29, xl328, xs328, xgP12_31, xl336, xs336, xgP12_33, xl344, xs344, xgP12_46, xl352, xs352, xgP12_47, xl360, xs360, xgP2_0, xpL2_0, xgP2_1, xpL2_1, xgP2_2, xpL2_2, xgI2, xwZ2, xpR2, xmo, xpL_5, xpL_33, xpL_34, xpL_35, xpL_36, xpL_37, i3m2, i3m4, i3m5, i3m6, i3m7, i3m12, i3m60, i3m72, i3m1600, i3r6, i3p1, i3p2, i3p3, i3p4, i3p5, i3p6, i3p7, i3p8, i3p9, i3p20, i3_add, i3_mul, i3_toNat, inA_i3, i3_lt, i3_le, i3_eq, Nat.reduceMul, Nat.reduceAdd, x12, true_and, r2, wp_ite]
    by_cases h2 : vCl (sM s) x = 0
    · rw [if_pos h2]; exact L218 (Or.inl h2)
    · rw [if_neg h2]
      by_cases h3 : lowW (sM s) ru T P x 1
      · rw [if_neg h2, if_pos h3] at eR
        rw [hy1 h3, if_neg (by decide)]
        unfold F_X12_fail
        simp (maxSteps := 2000000) (disch := first | assumption | omega | (simp only [K0_sI, K0_sL, K0_tI, K0_tL, K0_nE]; assumption)) only [wp_bn, xgI11, xgL11, xwI11, xpR11, xgI4, xgL4, xwI4, xpR4, xgI7, xgL7, xwI7, xpR7, xgI12, xgL12, xwI12, xpR12, xgP11_0, xgP11_1, xgP11_2, xgP11_3, xgP11_4, xgP11_5, xgP11_6, xgP11_7, xgP4_0, xl115, xs115, xgP4_9, xl120, xs120, xgP7_0, xgP7_1, xl136, xs136, xgP7_2, xl144, xs144, xgP12_0, xl160, xs160, xgP12_4, xl168, xs168, xgP12_5, xl176, xs176, xgP12_6, xl184, xs184, xgP12_7, xl192, xs192, xgP12_8, xl200, xs200, xgP12_11, xl209, xs209, xgP12_12, xl218, xs218, xgP12_13, xl226, xs226, xgP12_14, xl232, xs232, xgP12_15, xl241, xs241, xgP12_16, xl248, xs248, xgP12_17, xl256, xs256, xgP12_18, xl264, xs264, xgP12_19, xl274, xs274, xgP12_20, xl280, xs280, xgP12_22, xl288, xs288, xgP12_25, xl296, xs296, xgP12_26, xl305, xs305, xgP12_27, xl312, xs312, xgP12_28, xl321, xs321, xgP12_29, xl328, xs328, xgP12_31, xl336, xs336, xgP12_33, xl344, xs344, xgP12_46, xl352, xs352, xgP12_47, xl360, xs360, xgP2_0, xpL2_0, xgP2_1, xpL2_1, xgP2_2, xpL2_2, xgI2, xwZ2, xpR2, xmo, xpL_5, xpL_33, xpL_34, xpL_35, xpL_36, xpL_37, i3m2, i3m4, i3m5, i3m6, i3m7, i3m12, i3m60, i3m72, i3m1600, i3r6, i3p1, i3p2, i3p3, i3p4, i3p5, i3p6, i3p7, i3p8, i3p9, i3p20, i3_add, i3_mul, i3_toNat, inA_i3, i3_lt, i3_le, i3_eq, Nat.reduceMul, Nat.reduceAdd, x12, true_and, nar0, nar1]
        have m1 : Md [2226] ν (tI ν 226 (b + 47) x 1) := (Md.tI (k := 226) kk47).wk rfl
        have m2 : Md [2218] (tI ν 226 (b + 47) x 1) (tI (tI ν 226 (b + 47) x 1) 218 (b + 46) x 0) := (Md.tI (k := 218) (show mK (tI ν 226 (b + 47) x 1) (b + 46) ≠ 0 from kk46)).wk rfl
        have M2 : q_RM (tI (tI ν 226 (b + 47) x 1) 218 (b + 46) x 0) b (setFa (setCl (sM s) x 0) x 1) := (M1.fa 1).cl 0
        obtain ⟨μ2, e2⟩ : ∃ μ2, μ2 = tI (tI ν 226 (b + 47) x 1) 218 (b + 46) x 0 := ⟨_, rfl⟩
        rw [← e2] at m2 M2 ⊢
        have mm := (md.tr m1).tr m2
        refine q_wp_mono (r_months (nt := nt) (c := c) (P := P) (s := wM s (setFa (setCl (sM s) x 0) x 1)) hB hc (mm.k0 hK) M2 (hL.fr mm.1 rfl) (fun i hi => by rw [mm.1.ai 360 rfl]; exact hP i hi) ((hI.cl hx (Or.inl rfl)).fa hx (Or.inr rfl)) hIL hx) ?_
        rintro _ ρ ⟨M3, L3, md3⟩
        obtain ⟨S, eS⟩ : ∃ S, S = cloA P x 6 (wM s (setFa (setCl (sM s) x 0) x 1)) := ⟨_, rfl⟩
        rw [← eS] at eR M3 L3
        have fin := hQ ρ (by rw [eR]; exact M3) (by rw [eR]; exact L3) ((mm.tr md3).wk rfl)
        rw [eR] at fin
        exact fin
      · rw [hy0 h3, if_pos rfl]; exact L218 (Or.inr h3)
  by_cases h3 : lowW (sM s) ru T P x 1
  · rw [if_neg (by rw [lgc_ge]; omega)]
    exact L191 1 (fun _ => rfl) (fun z => absurd h3 z)
  · rw [if_pos (by rw [lgc_ge]; omega)]
    exact L191 0 (fun z => absurd z h3) (fun _ => rfl)

def endR (v : q_VT) (vd : VD) (j : Nat) (t : Nat) : Int32 := match q_lastK (hitE v (q_i3 (dT vd)) (q_i3 j)) t with
  | some t => v.2 t 1
  | none => lat vd j
theorem endR_succ (v : q_VT) (vd : VD) (j t : Nat) : endR v vd j (t + 1) = if hitE v (q_i3 (dT vd)) (q_i3 j) t = true then v.2 t 1 else endR v vd j t := by
  unfold endR
  show (match (if hitE v (q_i3 (dT vd)) (q_i3 j) t = true then some t else q_lastK (hitE v (q_i3 (dT vd)) (q_i3 j)) t) with | some t => v.2 t 1 | none => lat vd j) = _
  split
  · rename_i h; split at h
    · cases h; rw [if_pos (by assumption)]
    · rename_i h2; rw [if_neg h2, h]
  · rename_i h; split at h
    · cases h
    · rename_i h2; rw [if_neg h2, h]
theorem r_endL {μ : Mem} {b j n : Nat} {v : q_VT} {vd : VD} {k24 : Nat → Int32 → M Int32} {Q : Int32 → Mem → Prop} (hK : K0 μ b) (hT : RT μ b v) (h792 : mI μ 792 (b + 38) = q_i3 (dT vd)) (hI : IT v n (dT vd)) (hd : dT vd < 150) (hj : j < 6)
    (hQ : q_wp (k24 (b + 38) (q_i3 (j + 1))) (tI (tI μ 296 (b + 56) (6 * dT vd + j) (q_endP v vd j)) 360 (b + 64) j (pz (q_endP v vd j))) Q) :
    q_wp (F_X12_night_L38 k24 FU (b + 38) (q_i3 j) (lat vd j) 0) μ Q := by
  have h700 := hI.1
  refine wp_loop (σ := Int32) (fun f t x => F_X12_night_L38 k24 f (b + 38) (q_i3 j) x (q_i3 t)) v.1 (fun t x ν => ν = μ ∧ x = endR v vd j t) _ ?_ ?_ FU 0 (lat vd j) μ (by omega) (by show _ < 100000; omega) ⟨rfl, rfl⟩
  · rintro f x ν ⟨rfl, rfl⟩
    show q_wp (F_X12_night_L38 k24 (f + 1) (b + 38) (q_i3 j) _ (q_i3 v.1)) ν Q
    have b1 : 6 * dT vd + j < 906 := by omega
    have eE : endR v vd j v.1 = q_endP v vd j := rfl
    rw [eE]
    unfold F_X12_night_L38 F_X12_night_L138
    rw [wp_bn, xgI12 hK, show mI ν (64 * 12 + 23) (b + 38) = q_i3 v.1 from hT.1, wp_ite, if_pos ((i3_le (by omega) (by omega)).mpr (Nat.le_refl _))]
    simp (maxSteps := 2000000) (disch := first | assumption | omega | (simp only [K0_sI, K0_sL, K0_tI, K0_tL, K0_nE]; assumption)) only [wp_bn, xgI11, xgL11, xwI11, xpR11, xgI4, xgL4, xwI4, xpR4, xgI7, xgL7, xwI7, xpR7, xgI12, xgL12, xwI12, xpR12, xgP11_0, xgP11_1, xgP11_2, xgP11_3, xgP11_4, xgP11_5, xgP11_6, xgP11_7, xgP4_0, xl115, xs115, xgP4_9, xl120, xs120, xgP7_0, xgP7_1, xl136, xs136, xgP7_2, xl144, xs144, xgP12_0, xl160, xs160, xgP12_4, xl168, xs168, xgP12_5, xl176, xs176, xgP12_6, xl184, xs184, xgP12_7, xl192, xs192, xgP12_8, xl200, xs200, xgP12_11, xl209, xs209, xgP12_12, xl218, xs218, xgP12_13, xl226, xs226, xgP12_14, xl232, xs232, xgP12_15, xl241, xs241, xgP12_16, xl248, xs248, xgP12_17, xl256, xs256, xgP12_18, xl264, xs264, xgP12_19, xl274, xs274, xgP12_20, xl280, xs280, xgP12_22, xl288, xs288, xgP12_25, xl296, xs296, xgP12_26, xl305, xs305, xgP12_27, xl312, xs312, xgP12_28, xl321, xs321, xgP12_29, xl328, xs328, xgP12_31, xl336, xs336, xgP12_33, xl344, xs344, xgP12_46, xl352, xs352, xgP12_47, xl360, xs360, xgP2_0, xpL2_0, xgP2_1, xpL2_1, xgP2_2, xpL2_2, xgI2, xwZ2, xpR2, xmo, xpL_5, xpL_33, xpL_34, xpL_35, xpL_36, xpL_37, i3m2, i3m4, i3m5, i3m6, i3m7, i3m12, i3m60, i3m72, i3m1600, i3r6, i3p1, i3p2, i3p3, i3p4, i3p5, i3p6, i3p7, i3p8, i3p9, i3p20, i3_add, i3_mul, i3_toNat, inA_i3, i3_lt, i3_le, i3_eq, Nat.reduceMul, Nat.reduceAdd, h792, b1, hj, true_and, wp_ite]
    unfold pz at hQ
    by_cases e : q_endP v vd j = -1
    · rw [if_pos e] at hQ
      rw [if_neg (fun z => z e)]
      exact hQ
    · rw [if_neg e] at hQ
      rw [if_pos e]
      exact hQ
  · rintro f t x ν ht ⟨rfl, rfl⟩ ih
    show q_wp (F_X12_night_L38 k24 (f + 1) (b + 38) (q_i3 j) _ (q_i3 t)) ν Q
    have q := hT.2 t ht
    have q0 : aI ν 288 (b + 55) (7 * t) = v.2 t 0 := q 0 (by omega)
    have q1 : aI ν 288 (b + 55) (7 * t + 1) = v.2 t 1 := q 1 (by omega)
    have q5 : aI ν 288 (b + 55) (7 * t + 5) = v.2 t 5 := q 5 (by omega)
    have q6 : aI ν 288 (b + 55) (7 * t + 6) = v.2 t 6 := q 6 (by omega)
    have c0 : 7 * t < 4900 := by omega
    have c1 : 7 * t + 1 < 4900 := by omega
    have c5 : 7 * t + 5 < 4900 := by omega
    have c6 : 7 * t + 6 < 4900 := by omega
    have go : ∀ y, y = endR v vd j (t + 1) → q_wp (F_X12_night_L38 k24 f (b + 38) (q_i3 j) y (q_i3 (t + 1))) ν Q := fun y hy => ih y ν ⟨rfl, hy⟩
    unfold F_X12_night_L38 F_X12_night_L102
    rw [wp_bn, xgI12 hK, show mI ν (64 * 12 + 23) (b + 38) = q_i3 v.1 from hT.1, wp_ite, if_neg (fun z => by have := (i3_le (by omega) (by omega)).mp z; omega)]
    simp (maxSteps := 2000000) (disch := first | assumption | omega | (simp only [K0_sI, K0_sL, K0_tI, K0_tL, K0_nE]; assumption)) only [wp_bn, xgI11, xgL11, xwI11, xpR11, xgI4, xgL4, xwI4, xpR4, xgI7, xgL7, xwI7, xpR7, xgI12, xgL12, xwI12, xpR12, xgP11_0, xgP11_1, xgP11_2, xgP11_3, xgP11_4, xgP11_5, xgP11_6, xgP11_7, xgP4_0, xl115, xs115, xgP4_9, xl120, xs120, xgP7_0, xgP7_1, xl136, xs136, xgP7_2, xl144, xs144, xgP12_0, xl160, xs160, xgP12_4, xl168, xs168, xgP12_5, xl176, xs176, xgP12_6, xl184, xs184, xgP12_7, xl192, xs192, xgP12_8, xl200, xs200, xgP12_11, xl209, xs209, xgP12_12, xl218, xs218, xgP12_13, xl226, xs226, xgP12_14, xl232, xs232, xgP12_15, xl241, xs241, xgP12_16, xl248, xs248, xgP12_17, xl256, xs256, xgP12_18, xl264, xs264, xgP12_19, xl274, xs274, xgP12_20, xl280, xs280, xgP12_22, xl288, xs288, xgP12_25, xl296, xs296, xgP12_26, xl305, xs305, xgP12_27, xl312, xs312, xgP12_28, xl321, xs321, xgP12_29, xl328, xs328, xgP12_31, xl336, xs336, xgP12_33, xl344, xs344, xgP12_46, xl352, xs352, xgP12_47, xl360, xs360, xgP2_0, xpL2_0, xgP2_1, xpL2_1, xgP2_2, xpL2_2, xgI2, xwZ2, xpR2, xmo, xpL_5, xpL_33, xpL_34, xpL_35, xpL_36, xpL_37, i3m2, i3m4, i3m5, i3m6, i3m7, i3m12, i3m60, i3m72, i3m1600, i3r6, i3p1, i3p2, i3p3, i3p4, i3p5, i3p6, i3p7, i3p8, i3p9, i3p20, i3_add, i3_mul, i3_toNat, inA_i3, i3_lt, i3_le, i3_eq, Nat.reduceMul, Nat.reduceAdd, h792, c0, c1, c5, c6, q0, q1, q5, q6, true_and, wp_ite]
    by_cases e0 : v.2 t 0 = q_i3 j
    · rw [if_neg (fun z => z e0)]
      by_cases e5 : v.2 t 5 = q_i3 (dT vd)
      · rw [if_neg (fun z => z e5)]
        by_cases e6 : v.2 t 6 = 0
        · rw [if_neg (fun z => z e6)]
          exact go _ (by rw [endR_succ, if_pos (by unfold hitE; rw [e0, e5, e6]; simp)])
        · rw [if_pos e6]
          exact go _ (by rw [endR_succ, if_neg (by unfold hitE; simp [e6])])
      · rw [if_pos e5]
        exact go _ (by rw [endR_succ, if_neg (by unfold hitE; simp [e5])])
    · rw [if_pos e0]
      exact go _ (by rw [endR_succ, if_neg (by unfold hitE; simp [e0])])
theorem r_nightMo {μ : Mem} {b n m : Nat} {v : q_VT} {vd : VD} {Q : Int32 → Mem → Prop} (hK : K0 μ b) (hT : RT μ b v) (hD : RD μ b vd) (hI : IT v n (dT vd)) (hID : ID vd m) (hd : dT vd < 150)
    (hQ : ∀ ν, Md [2296, 2360] μ ν → RD ν b vd → (∀ i, i < 6 → aI ν 296 (b + 56) (6 * dT vd + i) = q_endP v vd i ∧ aI ν 360 (b + 64) i = pz (q_endP v vd i)) → q_wp (F_X12_night_L149 FU (b + 38) 0 0) ν Q) :
    q_wp (F_X12_night_L24 FU (b + 38) 0) μ Q := by
  refine wp_loop (σ := Unit) (fun f k _ => F_X12_night_L24 f (b + 38) (q_i3 k)) 6 (fun k _ ν => Md [2296, 2360] μ ν ∧ RD ν b vd ∧ ∀ i, i < k → aI ν 296 (b + 56) (6 * dT vd + i) = q_endP v vd i ∧ aI ν 360 (b + 64) i = pz (q_endP v vd i)) _ ?_ ?_ FU 0 () μ (by omega) (by show 6 - 0 < 100000; omega) ⟨(Md.rf μ).wk rfl, hD, fun i hi => by omega⟩
  · rintro f _ ν ⟨h1, h2, h3⟩
    unfold F_X12_night_L24
    rw [wp_ite, if_pos (by decide)]
    exact hQ ν h1 h2 h3
  · rintro f k _ ν hk ⟨md, D1, h3⟩ ih
    show q_wp (F_X12_night_L24 (f + 1) (b + 38) (q_i3 k)) ν Q
    have K1 := md.k0 hK
    unfold F_X12_night_L24
    rw [wp_ite, if_neg (fun z => by have := (i3_le (a := 6) (by omega) (by omega)).mp z; omega), wp_bn, xpR12 K1, wp_bn, wp_eq (r_latest K1 D1 hID hk)]
    refine r_endL K1 (hT.fr md.1 rfl) D1.1 hI hd hk ?_
    have m1 : Md [2296] ν (tI ν 296 (b + 56) (6 * dT vd + k) (q_endP v vd k)) := (Md.tI (k := 296) (by rw [K1.k 56 296 (by decide)]; omega)).wk rfl
    have m2 : Md [2360] (tI ν 296 (b + 56) (6 * dT vd + k) (q_endP v vd k)) (tI (tI ν 296 (b + 56) (6 * dT vd + k) (q_endP v vd k)) 360 (b + 64) k (pz (q_endP v vd k))) := (Md.tI (k := 360) (by show mK ν (b + 64) ≠ 0; rw [K1.k 64 360 (by decide)]; omega)).wk rfl
    have md2 := (md.tr m1).tr m2
    have a296 : ∀ q, aI (tI (tI ν 296 (b + 56) (6 * dT vd + k) (q_endP v vd k)) 360 (b + 64) k (pz (q_endP v vd k))) 296 (b + 56) q = if q = 6 * dT vd + k then q_endP v vd k else aI ν 296 (b + 56) q := fun q => by
      rw [aI_tI', if_neg (fun z => absurd z.1 (by omega)), aI_tI']
      by_cases e : q = 6 * dT vd + k
      · rw [if_pos e, if_pos ⟨rfl, rfl, e⟩]
      · rw [if_neg e, if_neg (fun z => e z.2.2)]
    refine ih () _ ⟨md2.wk rfl, ?_, fun i hi => ⟨?_, ?_⟩⟩
    · obtain ⟨d1, d2, d3, d4⟩ := D1
      have f := m1.tr m2
      refine ⟨by rw [f.1.i 792 rfl]; exact d1, by rw [f.1.i 798 rfl]; exact d2, fun d hd' => ⟨fun j hj => ?_, ?_⟩, ?_⟩
      · rw [a296, if_neg (by omega)]; exact (d3 d hd').1 j hj
      · rw [f.1.alg 305 rfl, f.1.alg 321 rfl, f.1.ai 312 rfl]; exact (d3 d hd').2
      · rw [f.1.ai 328 rfl]; exact d4
    · rw [a296]
      by_cases e : i = k
      · rw [if_pos (by omega), e]
      · rw [if_neg (by omega)]; exact (h3 i (by omega)).1
    · rw [aI_tI']
      by_cases e : i = k
      · rw [if_pos ⟨rfl, rfl, e⟩, e]
      · rw [if_neg (fun z => e z.2.2), aI_tI', if_neg (fun z => absurd z.1 (by omega))]; exact (h3 i (by omega)).2
theorem r_nightL {b c nt : Nat} {ru : List q_Ru} {T : Int32} {B : Int} {P : Nat → Int32} {s : q_St} {μ : Mem} {Q : Int32 → Mem → Prop} (hB : B ≤ 90000) (hc : nt + c ≤ 1500) (hK : K0 μ b) (hM : q_RM μ b (sM s)) (hL : q_RL μ b (sG s)) (hU : RU μ b ru) (hT : mI μ 792 (b + 38) = T) (hP : ∀ i, i < 6 → aI μ 360 (b + 64) i = P i) (hI : IMb (sM s) B) (hIL : q_IL (sG s) (vN (sM s)) nt c)
    (hQ : ∀ ν, q_RM ν b (sM (nmL ru T P (vN (sM s)) s).2) → q_RL ν b (sG (nmL ru T P (vN (sM s)) s).2) → Md RNS μ ν → q_wp (F_X12_night_L257 FU (b + 38) (nmL ru T P (vN (sM s)) s).1 0) ν Q) :
    q_wp (F_X12_night_L149 FU (b + 38) 0 0) μ Q := by
  have h12 := hI.1
  refine wp_loop (σ := Int32) (fun f k x => F_X12_night_L149 f (b + 38) x (q_i3 k)) (vN (sM s)) (fun k x ν => x = (nmL ru T P k s).1 ∧ q_RM ν b (sM (nmL ru T P k s).2) ∧ q_RL ν b (sG (nmL ru T P k s).2) ∧ Md RNS μ ν) _ ?_ ?_ FU 0 0 μ (by omega) (by show _ < 100000; omega) ⟨rfl, hM, hL, (Md.rf μ).wk rfl⟩
  · rintro f x ν ⟨rfl, M1, L1, md⟩
    show q_wp (F_X12_night_L149 (f + 1) (b + 38) _ (q_i3 (vN (sM s)))) ν Q
    have K1 := md.k0 hK
    obtain ⟨_, _, v1, _⟩ := nmL_ok (ru := ru) (T := T) (P := P) (by omega) hI hIL (vN (sM s)) (Nat.le_refl _)
    unfold F_X12_night_L149
    rw [wp_bn, xgI12 K1, show mI ν (64 * 12 + 10) (b + 38) = q_i3 (vN (sM (nmL ru T P (vN (sM s)) s).2)) from M1.1, v1, wp_ite, if_pos ((i3_le (by omega) (by omega)).mpr (Nat.le_refl _))]
    exact hQ ν M1 L1 md
  · rintro f k x ν hk ⟨rfl, M1, L1, md⟩ ih
    show q_wp (F_X12_night_L149 (f + 1) (b + 38) _ (q_i3 k)) ν Q
    have K1 := md.k0 hK
    obtain ⟨i1, l1, v1, z1⟩ := nmL_ok (ru := ru) (T := T) (P := P) (by omega) hI hIL k (by omega)
    obtain ⟨S, eS⟩ : ∃ S, S = (nmL ru T P k s) := ⟨_, rfl⟩
    have eK : nmL ru T P (k + 1) s = (S.1 + (nmS ru T P k S.2).1, (nmS ru T P k S.2).2) := by rw [eS]; rfl
    rw [eK] at ih
    rw [← eS] at M1 L1 i1 l1 v1 z1 ⊢
    refine r_night1 (P := P) hB hc K1 M1 L1 (hU.fr md.1 rfl) (T := T) (by rw [md.1.i 792 rfl]; exact hT) (fun i hi => by rw [md.1.ai 360 rfl]; exact hP i hi) i1 (by rw [v1]; exact l1) (by rw [v1]; exact hk) ?_
    intro ρ M2 L2 md2
    exact ih _ ρ ⟨rfl, M2, L2, (md.tr md2).wk rfl⟩

theorem r_n291 {μ : Mem} {b T : Nat} {x1 : Int32} {Q : Int32 → Mem → Prop} (hK : K0 μ b) (hT : mI μ 792 (b + 38) = q_i3 T) (hd : T < 150)
    (hQ : ∀ ν, Md [2312, 2321] μ ν → (∀ q, q < 72 → aI ν 312 (b + 58) (72 * T + q) = aI μ 232 (b + 48) q ∧ aL ν 321 (b + 59) (72 * T + q) = aL μ 241 (b + 49) q) → (∀ q, q < 72 * T → aI ν 312 (b + 58) q = aI μ 312 (b + 58) q ∧ aL ν 321 (b + 59) q = aL μ 321 (b + 59) q) → Q x1 (sI ν 792 (b + 38) (q_i3 (T + 1)))) :
    q_wp (F_X12_night_L291 FU (b + 38) x1 0) μ Q := by
  refine wp_loop (σ := Unit) (fun f k _ => F_X12_night_L291 f (b + 38) x1 (q_i3 k)) 72 (fun k _ ν => Md [2312, 2321] μ ν ∧ (∀ q, q < k → aI ν 312 (b + 58) (72 * T + q) = aI μ 232 (b + 48) q ∧ aL ν 321 (b + 59) (72 * T + q) = aL μ 241 (b + 49) q) ∧ ∀ q, q < 72 * T → aI ν 312 (b + 58) q = aI μ 312 (b + 58) q ∧ aL ν 321 (b + 59) q = aL μ 321 (b + 59) q) _ ?_ ?_ FU 0 () μ (by omega) (by show 72 - 0 < 100000; omega) ⟨(Md.rf μ).wk rfl, fun i hi => by omega, fun _ _ => ⟨rfl, rfl⟩⟩
  · rintro f _ ν ⟨md, h1, h2⟩
    have K1 := md.k0 hK
    unfold F_X12_night_L291
    rw [wp_ite, if_pos (by decide), wp_bn, xgI12 K1, show mI ν (64 * 12 + 24) (b + 38) = q_i3 T by rw [md.1.i _ rfl]; exact hT, i3_1, wp_bn, xwI12 K1, wp_rt]
    exact hQ ν md h1 h2
  · rintro f k _ ν hk ⟨md, h1, h2⟩ ih
    show q_wp (F_X12_night_L291 (f + 1) (b + 38) x1 (q_i3 k)) ν Q
    have K1 := md.k0 hK
    have e24 : mI ν 792 (b + 38) = q_i3 T := by rw [md.1.i _ rfl]; exact hT
    have c1 : 72 * T + k < 10872 := by omega
    have q1 : aI ν 232 (b + 48) k = aI μ 232 (b + 48) k := by rw [md.1.ai 232 rfl]
    have q2 : aL ν 241 (b + 49) k = aL μ 241 (b + 49) k := by rw [md.1.alg 241 rfl]
    unfold F_X12_night_L291
    rw [wp_ite, if_neg (fun z => by have := (i3_le (a := 72) (by omega) (by omega)).mp z; omega)]
    simp (maxSteps := 2000000) (disch := first | assumption | omega | (simp only [K0_sI, K0_sL, K0_tI, K0_tL, K0_nE]; assumption)) only [wp_bn, xgI11, xgL11, xwI11, xpR11, xgI4, xgL4, xwI4, xpR4, xgI7, xgL7, xwI7, xpR7, xgI12, xgL12, xwI12, xpR12, xgP11_0, xgP11_1, xgP11_2, xgP11_3, xgP11_4, xgP11_5, xgP11_6, xgP11_7, xgP4_0, xl115, xs115, xgP4_9, xl120, xs120, xgP7_0, xgP7_1, xl136, xs136, xgP7_2, xl144, xs144, xgP12_0, xl160, xs160, xgP12_4, xl168, xs168, xgP12_5, xl176, xs176, xgP12_6, xl184, xs184, xgP12_7, xl192, xs192, xgP12_8, xl200, xs200, xgP12_11, xl209, xs209, xgP12_12, xl218, xs218, xgP12_13, xl226, xs226, xgP12_14, xl232, xs232, xgP12_15, xl241, xs241, xgP12_16, xl248, xs248, xgP12_17, xl256, xs256, xgP12_18, xl264, xs264, xgP12_19, xl274, xs274, xgP12_20, xl280, xs280, xgP12_22, xl288, xs288, xgP12_25, xl296, xs296, xgP12_26, xl305, xs305, xgP12_27, xl312, xs312, xgP12_28, xl321, xs321, xgP12_29, xl328, xs328, xgP12_31, xl336, xs336, xgP12_33, xl344, xs344, xgP12_46, xl352, xs352, xgP12_47, xl360, xs360, xgP2_0, xpL2_0, xgP2_1, xpL2_1, xgP2_2, xpL2_2, xgI2, xwZ2, xpR2, xmo, xpL_5, xpL_33, xpL_34, xpL_35, xpL_36, xpL_37, i3m2, i3m4, i3m5, i3m6, i3m7, i3m12, i3m60, i3m72, i3m1600, i3r6, i3p1, i3p2, i3p3, i3p4, i3p5, i3p6, i3p7, i3p8, i3p9, i3p20, i3_add, i3_mul, i3_toNat, inA_i3, i3_lt, i3_le, i3_eq, Nat.reduceMul, Nat.reduceAdd, mI_tI, mI_tL, aL_tI, e24, hk, c1, true_and, q1, q2]
    have m1 : Md [2312] ν (tI ν 312 (b + 58) (72 * T + k) (aI μ 232 (b + 48) k)) := (Md.tI (k := 312) (by rw [K1.k 58 312 (by decide)]; omega)).wk rfl
    have m2 : Md [2321] (tI ν 312 (b + 58) (72 * T + k) (aI μ 232 (b + 48) k)) (tL (tI ν 312 (b + 58) (72 * T + k) (aI μ 232 (b + 48) k)) 321 (b + 59) (72 * T + k) (aL μ 241 (b + 49) k)) := (Md.tL (k := 321) (by show mK ν (b + 59) ≠ 0; rw [K1.k 59 321 (by decide)]; omega)).wk rfl
    have w1 : ∀ q, aI (tL (tI ν 312 (b + 58) (72 * T + k) (aI μ 232 (b + 48) k)) 321 (b + 59) (72 * T + k) (aL μ 241 (b + 49) k)) 312 (b + 58) q = if q = 72 * T + k then aI μ 232 (b + 48) k else aI ν 312 (b + 58) q := fun q => by
      rw [aI_tL, aI_tI']
      by_cases e : q = 72 * T + k
      · rw [if_pos e, if_pos ⟨rfl, rfl, e⟩]
      · rw [if_neg e, if_neg (fun z => e z.2.2)]
    have w2 : ∀ q, aL (tL (tI ν 312 (b + 58) (72 * T + k) (aI μ 232 (b + 48) k)) 321 (b + 59) (72 * T + k) (aL μ 241 (b + 49) k)) 321 (b + 59) q = if q = 72 * T + k then aL μ 241 (b + 49) k else aL ν 321 (b + 59) q := fun q => by
      rw [aL_tL', aL_tI]
      by_cases e : q = 72 * T + k
      · rw [if_pos e, if_pos ⟨rfl, rfl, e⟩]
      · rw [if_neg e, if_neg (fun z => e z.2.2)]
    refine ih () _ ⟨((md.tr m1).tr m2).wk rfl, fun q hq => ?_, fun q hq => ?_⟩
    · rw [w1, w2]
      by_cases e : q = k
      · rw [if_pos (by omega), if_pos (by omega), e]; exact ⟨rfl, rfl⟩
      · rw [if_neg (by omega), if_neg (by omega)]; exact h1 q (by omega)
    · rw [w1, w2, if_neg (by omega), if_neg (by omega)]; exact h2 q hq
theorem r_n257 {μ : Mem} {b T : Nat} {x1 : Int32} {Q : Int32 → Mem → Prop} (hK : K0 μ b) (hT : mI μ 792 (b + 38) = q_i3 T) (hd : T < 150)
    (hQ : ∀ ν, Md [2305] μ ν → (∀ q, q < 12 → aL ν 305 (b + 57) (12 * T + q) = aL μ 209 (b + 45) q) → (∀ q, q < 12 * T → aL ν 305 (b + 57) q = aL μ 305 (b + 57) q) → q_wp (F_X12_night_L291 FU (b + 38) x1 0) ν Q) :
    q_wp (F_X12_night_L257 FU (b + 38) x1 0) μ Q := by
  refine wp_loop (σ := Unit) (fun f k _ => F_X12_night_L257 f (b + 38) x1 (q_i3 k)) 12 (fun k _ ν => Md [2305] μ ν ∧ (∀ q, q < k → aL ν 305 (b + 57) (12 * T + q) = aL μ 209 (b + 45) q) ∧ ∀ q, q < 12 * T → aL ν 305 (b + 57) q = aL μ 305 (b + 57) q) _ ?_ ?_ FU 0 () μ (by omega) (by show 12 - 0 < 100000; omega) ⟨(Md.rf μ).wk rfl, fun i hi => by omega, fun _ _ => rfl⟩
  · rintro f _ ν ⟨md, h1, h2⟩
    unfold F_X12_night_L257
    rw [wp_ite, if_pos (by decide)]
    exact hQ ν md h1 h2
  · rintro f k _ ν hk ⟨md, h1, h2⟩ ih
    show q_wp (F_X12_night_L257 (f + 1) (b + 38) x1 (q_i3 k)) ν Q
    have K1 := md.k0 hK
    have e24 : mI ν 792 (b + 38) = q_i3 T := by rw [md.1.i _ rfl]; exact hT
    have c1 : 12 * T + k < 1812 := by omega
    have q2 : aL ν 209 (b + 45) k = aL μ 209 (b + 45) k := by rw [md.1.alg 209 rfl]
    unfold F_X12_night_L257
    rw [wp_ite, if_neg (fun z => by have := (i3_le (a := 12) (by omega) (by omega)).mp z; omega)]
    simp (maxSteps := 2000000) (disch := first | assumption | omega | (simp only [K0_sI, K0_sL, K0_tI, K0_tL, K0_nE]; assumption)) only [wp_bn, xgI11, xgL11, xwI11, xpR11, xgI4, xgL4, xwI4, xpR4, xgI7, xgL7, xwI7, xpR7, xgI12, xgL12, xwI12, xpR12, xgP11_0, xgP11_1, xgP11_2, xgP11_3, xgP11_4, xgP11_5, xgP11_6, xgP11_7, xgP4_0, xl115, xs115, xgP4_9, xl120, xs120, xgP7_0, xgP7_1, xl136, xs136, xgP7_2, xl144, xs144, xgP12_0, xl160, xs160, xgP12_4, xl168, xs168, xgP12_5, xl176, xs176, xgP12_6, xl184, xs184, xgP12_7, xl192, xs192, xgP12_8, xl200, xs200, xgP12_11, xl209, xs209, xgP12_12, xl218, xs218, xgP12_13, xl226, xs226, xgP12_14, xl232, xs232, xgP12_15, xl241, xs241, xgP12_16, xl248, xs248, xgP12_17, xl256, xs256, xgP12_18, xl264, xs264, xgP12_19, xl274, xs274, xgP12_20, xl280, xs280, xgP12_22, xl288, xs288, xgP12_25, xl296, xs296, xgP12_26, xl305, xs305, xgP12_27, xl312, xs312, xgP12_28, xl321, xs321, xgP12_29, xl328, xs328, xgP12_31, xl336, xs336, xgP12_33, xl344, xs344, xgP12_46, xl352, xs352, xgP12_47, xl360, xs360, xgP2_0, xpL2_0, xgP2_1, xpL2_1, xgP2_2, xpL2_2, xgI2, xwZ2, xpR2, xmo, xpL_5, xpL_33, xpL_34, xpL_35, xpL_36, xpL_37, i3m2, i3m4, i3m5, i3m6, i3m7, i3m12, i3m60, i3m72, i3m1600, i3r6, i3p1, i3p2, i3p3, i3p4, i3p5, i3p6, i3p7, i3p8, i3p9, i3p20, i3_add, i3_mul, i3_toNat, inA_i3, i3_lt, i3_le, i3_eq, Nat.reduceMul, Nat.reduceAdd, e24, hk, c1, true_and, q2]
    have m2 : Md [2305] ν (tL ν 305 (b + 57) (12 * T + k) (aL μ 209 (b + 45) k)) := (Md.tL (k := 305) (by rw [K1.k 57 305 (by decide)]; omega)).wk rfl
    have w2 : ∀ q, aL (tL ν 305 (b + 57) (12 * T + k) (aL μ 209 (b + 45) k)) 305 (b + 57) q = if q = 12 * T + k then aL μ 209 (b + 45) k else aL ν 305 (b + 57) q := fun q => by
      rw [aL_tL']
      by_cases e : q = 12 * T + k
      · rw [if_pos e, if_pos ⟨rfl, rfl, e⟩]
      · rw [if_neg e, if_neg (fun z => e z.2.2)]
    refine ih () _ ⟨(md.tr m2).wk rfl, fun q hq => ?_, fun q hq => ?_⟩
    · rw [w2]
      by_cases e : q = k
      · rw [if_pos (by omega), e]
      · rw [if_neg (by omega)]; exact h1 q (by omega)
    · rw [w2, if_neg (by omega)]; exact h2 q hq
theorem r_night {μ : Mem} {b c : Nat} {s : q_St} (hK : K0 μ b) (hA : q_AR μ b s) (hI : Iv s c) (hc : c ≤ 600) : q_wp (F_X12_night (b + 38)) μ (fun r ν => r = (fNight s).1 ∧ rOK μ b (fNight s).2 0 ν) := by
  unfold F_X12_night
  refine r_start hK hA fun μ hK hA hz => ?_
  obtain ⟨hM, hL, hO, hT, hD, hR, hN, hU, hP⟩ := id hA
  have hID := hI.2.2.2.2.1
  have hIT := hI.2.2.2.1
  have h12 := hI.1.1
  have hb := hID.1
  rw [wp_bn, xgI12 hK, show mI μ (64 * 12 + 24) (b + 38) = q_i3 (dT (sD s)) from hD.1, wp_ite]
  obtain ⟨F, eF⟩ : ∃ F, F = fNight s := ⟨_, rfl⟩
  rw [← eF]
  unfold fNight at eF
  have heq : q_i3 (dT (sD s)) = 150 ↔ dT (sD s) = 150 := i3_eq (b := 150) (by omega) (by omega)
  by_cases h : dT (sD s) < 150
  rotate_left
  · rw [if_neg h] at eF
    rw [if_neg (fun z => z (heq.mpr (by omega))), wp_rt, eF]
    exact ⟨rfl, rOK.rf hA hz⟩
  rw [if_pos h] at eF
  rw [if_pos (fun z => by have := heq.mp z; omega), wp_bn, xwI12 hK]
  have m0 : Md [789] μ (sI μ (64 * 12 + 21) (b + 38) 0) := Md.sI (by rw [kk12 hK]; omega)
  obtain ⟨μ0, e0⟩ : ∃ μ0, μ0 = sI μ (64 * 12 + 21) (b + 38) 0 := ⟨_, rfl⟩
  have o0' : mI μ0 789 (b + 38) = q_i3 0 := by rw [e0, mI_sI', if_pos ⟨rfl, rfl⟩]; rfl
  rw [← e0] at m0 ⊢
  have K0' := m0.k0 hK
  refine r_nightMo K0' (hT.fr m0.1 rfl) (hD.fr m0.1 rfl) hIT hID h fun ν1 m1 D1 g1 => ?_
  have K1 := m1.k0 K0'
  have m01 := m0.tr m1
  have hIL := hI.2.1
  have hnt := hIT.1
  refine r_nightL (s := wO s ([], (sO s).2)) (nt := (sT s).1) (c := c) (B := 100 * c) (ru := sU s) (T := q_i3 (dT (sD s))) (P := fun j => pz (nP s j)) (by omega) (by omega) K1 (hM.fr m01.1 rfl) (hL.fr m01.1 rfl) (hU.fr m01.1 rfl) D1.1 (fun i hi => (g1 i hi).2) hI.1.b hIL ?_
  obtain ⟨i1, l1, v1, z1⟩ := nmL_ok (ru := sU s) (T := q_i3 (dT (sD s))) (P := fun j => pz (nP s j)) (s := wO s ([], (sO s).2)) (B := 100 * c) (nt := (sT s).1) (c := c) (by omega) hI.1.b hIL (vN (sM s)) (Nat.le_refl _)
  have eR : nmL (sU s) (q_i3 (dT (sD s))) (fun j => pz (nP s j)) (vN (sM (wO s ([], (sO s).2)))) (wO s ([], (sO s).2)) = nR s := rfl
  rw [eR]
  have eR' : nmL (sU s) (q_i3 (dT (sD s))) (fun j => pz (nP s j)) (vN (sM s)) (wO s ([], (sO s).2)) = nR s := rfl
  rw [eR'] at i1 l1 v1 z1
  obtain ⟨R, eRR⟩ : ∃ R, R = nR s := ⟨_, rfl⟩
  rw [← eRR] at i1 l1 v1 z1 eF ⊢
  intro ν2 M2 L2 m2
  have K2 := m2.k0 K1
  have t2 : mI ν2 792 (b + 38) = q_i3 (dT (sD s)) := by rw [m2.1.i 792 rfl]; exact D1.1
  refine r_n257 K2 t2 h fun ν3 m3 g3 o3 => ?_
  have K3 := m3.k0 K2
  refine r_n291 K3 (by rw [m3.1.i 792 rfl]; exact t2) h fun ν4 m4 g4 o4 => ?_
  have K4 := m4.k0 K3
  have m5 : Md [792] ν4 (sI ν4 792 (b + 38) (q_i3 (dT (sD s) + 1))) := Md.sI (by rw [kk12 K4]; omega)
  have hC := (((m01.tr m2).tr m3).tr m4).tr m5
  have mx := (m3.tr m4).tr m5
  rw [eF]
  refine ⟨rfl, ?_⟩
  have ts : (sT R.2) = sT s := by unfold sT; rw [z1]; rfl
  have rs : (sR R.2) = sR s := by unfold sR; rw [z1]; rfl
  have ns : (q_sN R.2) = q_sN s := by unfold q_sN; rw [z1]; rfl
  have us : (sU R.2) = sU s := by unfold sU; rw [z1]; rfl
  have ps : (sP' R.2) = sP' s := by unfold sP'; rw [z1]; rfl
  have os : (sO R.2) = ([], (sO s).2) := by unfold sO; rw [z1]; rfl
  refine rOK.of ⟨?_, ?_, ?_, ?_, ?_, ?_, ?_, ?_, ?_⟩ hC rfl (by rw [hC.1.i 803 rfl]; exact hz)
  · exact M2.fr mx.1 rfl
  · exact L2.fr mx.1 rfl
  · show RO _ b (sO R.2)
    rw [os]
    exact ⟨by rw [mx.1.i 789 rfl, (m1.tr m2).1.i 789 rfl]; exact o0', fun k hk => absurd hk (Nat.not_lt_zero _)⟩
  · show RT _ b (sT R.2)
    rw [ts]; exact hT.fr hC.1 rfl
  · show RD _ b (q_nD (sD s) (vN (sM s)) (nP s) (fun i => vPd (sM R.2) i - vCs (sM R.2) i) (vPs (sM R.2)))
    obtain ⟨d1, d2, d3, d4⟩ := D1
    refine ⟨by rw [mI_sI', if_pos ⟨rfl, rfl⟩]; rfl, by rw [mx.1.i 798 rfl, m2.1.i 798 rfl]; exact d2, fun d hd => ?_, by rw [mx.1.ai 328 rfl, m2.1.ai 328 rfl]; exact d4⟩
    have hd' : d < dT (sD s) + 1 := hd
    have a296 : ∀ q, aI (sI ν4 792 (b + 38) (q_i3 (dT (sD s) + 1))) 296 (b + 56) q = aI ν1 296 (b + 56) q := fun q => by rw [mx.1.ai 296 rfl, m2.1.ai 296 rfl]
    have a305 : ∀ q, aL (sI ν4 792 (b + 38) (q_i3 (dT (sD s) + 1))) 305 (b + 57) q = aL ν3 305 (b + 57) q := fun q => by rw [(m4.tr m5).1.alg 305 rfl]
    by_cases e : d = dT (sD s)
    · subst e
      have f1 : ∀ j, dSt (q_nD (sD s) (vN (sM s)) (nP s) (fun i => vPd (sM R.2) i - vCs (sM R.2) i) (vPs (sM R.2))) (dT (sD s)) j = nP s j := fun j => by show q_upd (dSt (sD s)) (dT (sD s)) _ (dT (sD s)) j = _; unfold q_upd; rw [if_pos rfl]
      have f2 : ∀ i, dBa (q_nD (sD s) (vN (sM s)) (nP s) (fun i => vPd (sM R.2) i - vCs (sM R.2) i) (vPs (sM R.2))) (dT (sD s)) i = vPd (sM R.2) i - vCs (sM R.2) i := fun i => by show q_upd (dBa (sD s)) (dT (sD s)) _ (dT (sD s)) i = _; unfold q_upd; rw [if_pos rfl]
      have f3 : ∀ i j, dPs (q_nD (sD s) (vN (sM s)) (nP s) (fun i => vPd (sM R.2) i - vCs (sM R.2) i) (vPs (sM R.2))) (dT (sD s)) i j = vPs (sM R.2) i j := fun i j => by show q_upd (dPs (sD s)) (dT (sD s)) _ (dT (sD s)) i j = _; unfold q_upd; rw [if_pos rfl]
      refine ⟨fun j hj => by rw [a296, f1]; exact (g1 j hj).1, fun i hi => ?_⟩
      obtain ⟨w1, w2, w3, w4, w5⟩ := M2.2 i hi
      rw [f2]
      refine ⟨?_, fun j hj => ?_⟩
      · rw [a305, g3 i hi, w1, ← w4]
        congr 1
        apply sm6_congr
        intro j hj
        rw [show aL (sI ν4 792 (b + 38) (q_i3 (dT (sD s) + 1))) 321 (b + 59) (72 * dT (sD s) + (6 * i + j)) = aL ν4 321 (b + 59) (72 * dT (sD s) + (6 * i + j)) from rfl, (g4 (6 * i + j) (by omega)).2, m3.1.alg 241 rfl]
      · rw [f3, show aI (sI ν4 792 (b + 38) (q_i3 (dT (sD s) + 1))) 312 (b + 58) (72 * dT (sD s) + (6 * i + j)) = aI ν4 312 (b + 58) (72 * dT (sD s) + (6 * i + j)) from rfl, (g4 (6 * i + j) (by omega)).1, m3.1.ai 232 rfl]
        exact w5 j hj
    · have f1 : dSt (q_nD (sD s) (vN (sM s)) (nP s) (fun i => vPd (sM R.2) i - vCs (sM R.2) i) (vPs (sM R.2))) d = dSt (sD s) d := by show q_upd (dSt (sD s)) (dT (sD s)) _ d = _; unfold q_upd; rw [if_neg e]
      have f2 : dBa (q_nD (sD s) (vN (sM s)) (nP s) (fun i => vPd (sM R.2) i - vCs (sM R.2) i) (vPs (sM R.2))) d = dBa (sD s) d := by show q_upd (dBa (sD s)) (dT (sD s)) _ d = _; unfold q_upd; rw [if_neg e]
      have f3 : dPs (q_nD (sD s) (vN (sM s)) (nP s) (fun i => vPd (sM R.2) i - vCs (sM R.2) i) (vPs (sM R.2))) d = dPs (sD s) d := by show q_upd (dPs (sD s)) (dT (sD s)) _ d = _; unfold q_upd; rw [if_neg e]
      rw [f1, f2, f3]
      obtain ⟨w1, w2⟩ := d3 d (by omega)
      refine ⟨fun j hj => by rw [a296]; exact w1 j hj, fun i hi => ?_⟩
      obtain ⟨w3, w4⟩ := w2 i hi
      refine ⟨?_, fun j hj => ?_⟩
      · rw [a305, o3 _ (by omega), m2.1.alg 305 rfl, ← w3]
        congr 1
        apply sm6_congr
        intro j hj
        rw [show aL (sI ν4 792 (b + 38) (q_i3 (dT (sD s) + 1))) 321 (b + 59) (72 * d + (6 * i + j)) = aL ν4 321 (b + 59) (72 * d + (6 * i + j)) from rfl, (o4 _ (by omega)).2, m3.1.alg 321 rfl, m2.1.alg 321 rfl]
      · rw [show aI (sI ν4 792 (b + 38) (q_i3 (dT (sD s) + 1))) 312 (b + 58) (72 * d + (6 * i + j)) = aI ν4 312 (b + 58) (72 * d + (6 * i + j)) from rfl, (o4 _ (by omega)).1, m3.1.ai 312 rfl, m2.1.ai 312 rfl]
        exact w4 j hj
  · show RR _ b (sR R.2)
    rw [rs]; exact hR.fr hC.1 rfl
  · show q_RN _ b (q_sN R.2)
    rw [ns]; exact hN.fr hC.1 rfl
  · show RU _ b (sU R.2)
    rw [us]; exact hU.fr hC.1 rfl
  · show RP _ b (sP' R.2)
    rw [ps]; exact hP.fr hC.1 rfl

def cmb (k x y : Int32) : Int32 := if k = 14 then (if y < x then y else x) else if k = 42 then x * y else if k = 43 then x + y else if k = 45 then x - y else if k = 47 then (if y = 0 then 0 else x / y) else if k = 60 then (if y ≤ x then 0 else 1) else if k = 61 then (if x = y then 1 else 0) else if k = 62 then (if x ≤ y then 0 else 1) else if x < y then y else x
def hd0 (st : List Int32) : Int32 := st.headD 0
def stpC (w : Nat → Int32) (c : Int32) (st : List Int32) : List Int32 :=
  if c < 0 then
    (if c < -6 then
      (if c = -7 then (- hd0 st) :: st.tail
       else if c = -8 then (if hd0 st.tail.tail = 0 then hd0 st else hd0 st.tail) :: st.tail.tail.tail
       else cmb (-c) (hd0 st.tail) (hd0 st) :: st.tail.tail)
     else w (-1 - c).toNatClampNeg :: st)
  else c :: st
def q_runC (w : Nat → Int32) (cd : List Int32) (st : List Int32) : List Int32 := cd.foldl (fun s c => stpC w c s) st
theorem runC_app (w : Nat → Int32) (a b st : List Int32) : q_runC w (a ++ b) st = q_runC w b (q_runC w a st) := by unfold q_runC; rw [List.foldl_append]
theorem stpC_len (w : Nat → Int32) (c : Int32) (st : List Int32) : (stpC w c st).length ≤ st.length + 1 := by
  unfold stpC
  split
  · split
    · split
      · simp <;> omega
      · split
        · simp <;> omega
        · simp <;> omega
    · simp
  · simp
def q_SK (μ : Mem) (b : Nat) (st : List Int32) : Prop := mI μ 451 (b + 4) = q_i3 st.length ∧ ∀ i, i < st.length → aI μ 144 (b + 7) i = st.getD (st.length - 1 - i) 0
theorem tt_ne {μ : Mem} (hT : TT μ) {a : Nat} (h : mK μ a ≠ 0) : ¬ some a = mT μ 0 := by
  obtain ⟨t, ht, _, hk⟩ := hT.1
  rw [ht]; intro z; cases z; exact h hk
theorem c_push {μ : Mem} {b : Nat} {st : List Int32} {x : Int32} (hK : K0 μ b) (hT : TT μ) (h : q_SK μ b st) (hl : st.length < 60) : q_wp (F_X7_push (b + 4) x) μ (fun _ ν => q_SK ν b (x :: st) ∧ Md [451, 2144] μ ν) := by
  obtain ⟨h1, h2⟩ := h
  have k7 : mK μ (b + 7) = 144 := hK.k 7 144 (by decide)
  unfold F_X7_push
  have e : mI μ (64 * 7 + 3) (b + 4) = q_i3 st.length := h1
  have nl : ¬ Int32.ofNat 60 ≤ q_i3 st.length := fun z => by have := (i3_le (a := 60) (by omega) (by omega)).mp z; omega
  simp (maxSteps := 2000000) (disch := first | assumption | omega | (simp only [K0_sI, K0_sL, K0_tI, K0_tL, K0_nE]; assumption)) only [wp_bn, xgI11, xgL11, xwI11, xpR11, xgI4, xgL4, xwI4, xpR4, xgI7, xgL7, xwI7, xpR7, xgI12, xgL12, xwI12, xpR12, xgP11_0, xgP11_1, xgP11_2, xgP11_3, xgP11_4, xgP11_5, xgP11_6, xgP11_7, xgP4_0, xl115, xs115, xgP4_9, xl120, xs120, xgP7_0, xgP7_1, xl136, xs136, xgP7_2, xl144, xs144, xgP12_0, xl160, xs160, xgP12_4, xl168, xs168, xgP12_5, xl176, xs176, xgP12_6, xl184, xs184, xgP12_7, xl192, xs192, xgP12_8, xl200, xs200, xgP12_11, xl209, xs209, xgP12_12, xl218, xs218, xgP12_13, xl226, xs226, xgP12_14, xl232, xs232, xgP12_15, xl241, xs241, xgP12_16, xl248, xs248, xgP12_17, xl256, xs256, xgP12_18, xl264, xs264, xgP12_19, xl274, xs274, xgP12_20, xl280, xs280, xgP12_22, xl288, xs288, xgP12_25, xl296, xs296, xgP12_26, xl305, xs305, xgP12_27, xl312, xs312, xgP12_28, xl321, xs321, xgP12_29, xl328, xs328, xgP12_31, xl336, xs336, xgP12_33, xl344, xs344, xgP12_46, xl352, xs352, xgP12_47, xl360, xs360, xgP2_0, xpL2_0, xgP2_1, xpL2_1, xgP2_2, xpL2_2, xgI2, xwZ2, xpR2, xmo, xpL_5, xpL_33, xpL_34, xpL_35, xpL_36, xpL_37, e]
  rw [wp_len, if_neg (tt_ne hT (by rw [k7]; omega)), k7, hK.n 7 60 (by decide)]
  refine ⟨by omega, ?_⟩
  rw [wp_ite, if_neg nl]
  simp (maxSteps := 2000000) (disch := first | assumption | omega | (simp only [K0_sI, K0_sL, K0_tI, K0_tL, K0_nE]; assumption)) only [wp_bn, xgI11, xgL11, xwI11, xpR11, xgI4, xgL4, xwI4, xpR4, xgI7, xgL7, xwI7, xpR7, xgI12, xgL12, xwI12, xpR12, xgP11_0, xgP11_1, xgP11_2, xgP11_3, xgP11_4, xgP11_5, xgP11_6, xgP11_7, xgP4_0, xl115, xs115, xgP4_9, xl120, xs120, xgP7_0, xgP7_1, xl136, xs136, xgP7_2, xl144, xs144, xgP12_0, xl160, xs160, xgP12_4, xl168, xs168, xgP12_5, xl176, xs176, xgP12_6, xl184, xs184, xgP12_7, xl192, xs192, xgP12_8, xl200, xs200, xgP12_11, xl209, xs209, xgP12_12, xl218, xs218, xgP12_13, xl226, xs226, xgP12_14, xl232, xs232, xgP12_15, xl241, xs241, xgP12_16, xl248, xs248, xgP12_17, xl256, xs256, xgP12_18, xl264, xs264, xgP12_19, xl274, xs274, xgP12_20, xl280, xs280, xgP12_22, xl288, xs288, xgP12_25, xl296, xs296, xgP12_26, xl305, xs305, xgP12_27, xl312, xs312, xgP12_28, xl321, xs321, xgP12_29, xl328, xs328, xgP12_31, xl336, xs336, xgP12_33, xl344, xs344, xgP12_46, xl352, xs352, xgP12_47, xl360, xs360, xgP2_0, xpL2_0, xgP2_1, xpL2_1, xgP2_2, xpL2_2, xgI2, xwZ2, xpR2, xmo, xpL_5, xpL_33, xpL_34, xpL_35, xpL_36, xpL_37, e, i3m2, i3m4, i3m5, i3m6, i3m7, i3m12, i3m60, i3m72, i3m1600, i3r6, i3p1, i3p2, i3p3, i3p4, i3p5, i3p6, i3p7, i3p8, i3p9, i3p20, i3_add, i3_mul, i3_toNat, inA_i3, i3_lt, i3_le, i3_eq, wp_rt, hl, true_and, mI_sI', mL_sL', mP_sP', aI_tI', aL_tL', aP_tP', mI_sL, mI_sP, mI_tI, mI_tL, mI_tP, mL_sI, mL_sP, mL_tI, mL_tL, mL_tP, mP_sI, mP_sL, mP_tI, mP_tL, mP_tP, aI_sI, aI_sL, aI_sP, aI_tL, aI_tP, aL_sI, aL_sL, aL_sP, aL_tI, aL_tP, aP_sI, aP_sL, aP_sP, aP_tI, aP_tL, mK_sI, mK_sL, mK_sP, mK_tI, mK_tL, mK_tP, mN_sI, mN_sL, mN_sP, mN_tI, mN_tL, mN_tP, mX_sI, mX_sL, mX_sP, mX_tI, mX_tL, mX_tP, mS_sI, mS_sL, mS_sP, mS_tI, mS_tL, mS_tP, mT_sI, mT_sL, mT_sP, mT_tI, mT_tL, mT_tP]
  have md : Md [2144] μ (tI μ 144 (b + 7) st.length x) := (Md.tI (k := 144) (by rw [k7]; omega)).wk rfl
  have md2 : Md [451] (tI μ 144 (b + 7) st.length x) (sI (tI μ 144 (b + 7) st.length x) 451 (b + 4) (q_i3 (st.length + 1))) := Md.sI (by show mK μ (b + 4) ≠ 0; rw [kk7 hK]; omega)
  refine ⟨⟨by rw [mI_sI', if_pos ⟨rfl, rfl⟩]; rfl, fun i hi => ?_⟩, (md.tr md2).wk rfl⟩
  rw [List.length_cons] at hi
  rw [aI_sI, aI_tI', List.length_cons]
  by_cases ei : i = st.length
  · rw [if_pos ⟨rfl, rfl, ei⟩, ei, show st.length + 1 - 1 - st.length = 0 by omega]; rfl
  · rw [if_neg (fun z => ei z.2.2), h2 i (by omega), show st.length + 1 - 1 - i = (st.length - 1 - i) + 1 by omega]; rfl
theorem c_pop {μ : Mem} {b : Nat} {st : List Int32} (hK : K0 μ b) (h : q_SK μ b st) (hl : st.length ≤ 60) : q_wp (F_X7_pop (b + 4)) μ (fun r ν => r = hd0 st ∧ q_SK ν b st.tail ∧ Md [451, 2144] μ ν) := by
  obtain ⟨h1, h2⟩ := h
  have k7 : mK μ (b + 7) = 144 := hK.k 7 144 (by decide)
  have e : mI μ (64 * 7 + 3) (b + 4) = q_i3 st.length := h1
  unfold F_X7_pop
  cases st with
  | nil =>
    rw [wp_bn, xgI7 hK, e, wp_ite, if_neg (fun z => z rfl), wp_rt]
    exact ⟨rfl, ⟨h1, h2⟩, (Md.rf μ).wk rfl⟩
  | cons x l =>
    have hl' : l.length < 60 := by rw [List.length_cons] at hl; omega
    have ne : ¬ q_i3 (l.length + 1) = 0 := fun z => by have := (i3_eq (b := 0) (by omega) (by omega)).mp z; omega
    rw [wp_bn, xgI7 hK, e, List.length_cons, wp_ite, if_pos ne, wp_bn, xgI7 hK, e, List.length_cons, i3_s1, wp_bn, xwI7 hK]
    obtain ⟨ν, eν⟩ : ∃ ν, ν = sI μ (64 * 7 + 3) (b + 4) (q_i3 l.length) := ⟨_, rfl⟩
    rw [← eν]
    have md : Md [451] μ ν := by rw [eν]; exact Md.sI (by rw [kk7 hK]; omega)
    have K1 := md.k0 hK
    have e1 : mI ν (64 * 7 + 3) (b + 4) = q_i3 l.length := by rw [eν, mI_sI', if_pos ⟨rfl, rfl⟩]
    rw [wp_bn, xgP7_2 K1, wp_bn, xgI7 K1, e1, wp_bn, xl144 K1, inA_i3 (by omega), i3_toNat (by omega), wp_rt]
    refine ⟨hl', ?_, ⟨e1, fun i hi => ?_⟩, md.wk rfl⟩
    · rw [md.1.ai 144 rfl, h2 l.length (by rw [List.length_cons]; omega), List.length_cons, show l.length + 1 - 1 - l.length = 0 by omega]; rfl
    · have hi : i < l.length := hi
      rw [md.1.ai 144 rfl, h2 i (by rw [List.length_cons]; omega), List.length_cons, show l.length + 1 - 1 - i = (l.length - 1 - i) + 1 by omega]; rfl
theorem c_combine {μ : Mem} {k x y : Int32} : F_X7_combine k x y μ = some (cmb k x y, μ) := by
  apply eq_wp
  unfold F_X7_combine cmb
  simp only [swF_cons, swF_nil, wp_ite, wp_rt]
  by_cases h1 : k = 14
  · rw [if_pos h1, if_pos h1]; first | exact ⟨rfl, rfl⟩ | exact ⟨rfl, trivial⟩
  rw [if_neg h1, if_neg h1]
  by_cases h2 : k = 42
  · rw [if_pos h2, if_pos h2]; first | exact ⟨rfl, rfl⟩ | exact ⟨rfl, trivial⟩
  rw [if_neg h2, if_neg h2]
  by_cases h3 : k = 43
  · rw [if_pos h3, if_pos h3]; first | exact ⟨rfl, rfl⟩ | exact ⟨rfl, trivial⟩
  rw [if_neg h3, if_neg h3]
  by_cases h4 : k = 45
  · rw [if_pos h4, if_pos h4]; first | exact ⟨rfl, rfl⟩ | exact ⟨rfl, trivial⟩
  rw [if_neg h4, if_neg h4]
  by_cases h5 : k = 47
  · rw [if_pos h5, if_pos h5]
    by_cases hy : y = 0
    · rw [if_neg (fun z => z hy), if_pos hy]; first | exact ⟨rfl, rfl⟩ | exact ⟨rfl, trivial⟩
    · rw [if_pos hy, if_neg hy, wp_bn, wp_dvI, wp_rt]; first | exact ⟨hy, rfl, rfl⟩ | exact ⟨hy, rfl, trivial⟩
  rw [if_neg h5, if_neg h5]
  by_cases h6 : k = 60
  · rw [if_pos h6, if_pos h6]; split <;> first | exact ⟨rfl, rfl⟩ | exact ⟨rfl, trivial⟩
  rw [if_neg h6, if_neg h6]
  by_cases h7 : k = 61
  · rw [if_pos h7, if_pos h7]
    by_cases hx : x = y
    · rw [if_neg (fun z => z hx), if_pos hx]; first | exact ⟨rfl, rfl⟩ | exact ⟨rfl, trivial⟩
    · rw [if_pos hx, if_neg hx]; first | exact ⟨rfl, rfl⟩ | exact ⟨rfl, trivial⟩
  rw [if_neg h7, if_neg h7]
  by_cases h8 : k = 62
  · rw [if_pos h8, if_pos h8]; split <;> first | exact ⟨rfl, rfl⟩ | exact ⟨rfl, trivial⟩
  rw [if_neg h8, if_neg h8]
  first | exact ⟨rfl, rfl⟩ | exact ⟨rfl, trivial⟩
theorem Md.tt {S : List Nat} {μ ν : Mem} (h : Md S μ ν) (hT : TT μ) : TT ν := by
  unfold TT; rw [h.1.t, h.2.2.2.2.1, h.2.2.1]; exact hT
theorem c_apply {μ : Mem} {b : Nat} {st : List Int32} {c : Int32} {w : Nat → Int32} (hK : K0 μ b) (hT : TT μ) (h : q_SK μ b st) (hl : st.length < 60) (hc0 : c < 0) (hc : c < -6) : q_wp (F_X7_apply (b + 4) c) μ (fun _ ν => q_SK ν b (stpC w c st) ∧ Md [451, 2144] μ ν) := by
  unfold F_X7_apply F_X7_apply_L42 stpC
  rw [if_pos hc0, if_pos hc, wp_bn, xpR7 hK, wp_bn]
  refine q_wp_mono (c_pop hK h (by omega)) ?_
  rintro _ μ1 ⟨rfl, S1, m1⟩
  have K1 := m1.k0 hK
  have t1 : st.tail.length ≤ st.length := by rw [List.length_tail]; omega
  rw [wp_ite]
  by_cases h7 : c = -7
  · rw [if_neg (fun z => z h7), if_pos h7, wp_bn, xpR7 K1, wp_bn]
    refine q_wp_mono (c_push K1 (m1.tt hT) S1 (by omega)) ?_
    rintro _ μ2 ⟨S2, m2⟩
    rw [wp_rt]; exact ⟨S2, (m1.tr m2).wk rfl⟩
  · rw [if_pos h7, if_neg h7, wp_bn, xpR7 K1, wp_bn]
    refine q_wp_mono (c_pop K1 S1 (by omega)) ?_
    rintro _ μ2 ⟨rfl, S2, m2⟩
    have K2 := m2.k0 K1
    have t2 : st.tail.tail.length ≤ st.length := by rw [List.length_tail]; omega
    have m12 := (m1.tr m2).wk (T := [451, 2144]) rfl
    rw [wp_ite]
    by_cases h8 : c = -8
    · rw [if_neg (fun z => z h8), if_pos h8, wp_bn, xpR7 K2, wp_bn]
      refine q_wp_mono (c_pop K2 S2 (by omega)) ?_
      rintro _ μ3 ⟨rfl, S3, m3⟩
      have K3 := m3.k0 K2
      have t3 : st.tail.tail.tail.length ≤ st.length := by rw [List.length_tail]; omega
      have m123 := (m12.tr m3).wk (T := [451, 2144]) rfl
      rw [wp_ite]
      by_cases h0 : hd0 st.tail.tail = 0
      · rw [if_pos h0, if_pos h0, wp_bn, xpR7 K3, wp_bn]
        refine q_wp_mono (c_push K3 (m123.tt hT) S3 (by omega)) ?_
        rintro _ μ4 ⟨S4, m4⟩
        rw [wp_rt]; exact ⟨S4, (m123.tr m4).wk rfl⟩
      · rw [if_neg h0, if_neg h0, wp_bn, xpR7 K3, wp_bn]
        refine q_wp_mono (c_push K3 (m123.tt hT) S3 (by omega)) ?_
        rintro _ μ4 ⟨S4, m4⟩
        rw [wp_rt]; exact ⟨S4, (m123.tr m4).wk rfl⟩
    · rw [if_pos h8, if_neg h8, wp_bn, wp_eq c_combine, wp_bn, xpR7 K2, wp_bn]
      refine q_wp_mono (c_push K2 (m12.tt hT) S2 (by omega)) ?_
      rintro _ μ3 ⟨S3, m3⟩
      rw [wp_rt]; exact ⟨S3, (m12.tr m3).wk rfl⟩
theorem neg_word {c : Int32} (h0 : c < 0) (h6 : ¬ c < -6) : ∃ n, n < 6 ∧ (-1 - c) = q_i3 n := by
  rw [Int32.lt_iff_toInt_lt] at h0 h6
  have z0 : (0 : Int32).toInt = 0 := rfl
  have z6 : (-6 : Int32).toInt = -6 := by decide
  have z1 : (-1 : Int32).toInt = -1 := by decide
  rw [z0] at h0; rw [z6] at h6
  refine ⟨(-1 - c.toInt).toNat, by omega, ?_⟩
  apply Int32.toInt_inj.mp
  rw [i3_toInt (by omega), Int32.toInt_sub, z1, Int.bmod_eq_of_le (by omega) (by omega)]
  omega
theorem c_work {ν : Mem} {b e : Nat} {cd : List Int32} (hK : K0 ν b) (hT : TT ν) (hk : mK ν e = 128) (hn : mN ν e = cd.length) (h60 : cd.length ≤ 60) (hcd : ∀ i, i < cd.length → aI ν 128 e i = cd.getD i 0) : q_wp (F_X7_work (b + 4) (some e)) ν (fun r ρ => r = hd0 (q_runC (q_w6 (aI ν 136 (b + 6))) cd []) ∧ Md [451, 2144] ν ρ) := by
  unfold F_X7_work
  rw [wp_bn, xwI7 hK]
  have m0 : Md [451] ν (sI ν (64 * 7 + 3) (b + 4) 0) := Md.sI (by rw [kk7 hK]; omega)
  have w0 : ∀ k, k ≤ cd.length → (q_runC (q_w6 (aI ν 136 (b + 6))) (cd.take k) []).length ≤ k := by
    intro k
    induction k with
    | zero => intro _; exact Nat.le_refl _
    | succ k ih =>
      intro hk
      rw [List.take_succ_eq_append_getElem (by omega), runC_app]
      have := stpC_len (q_w6 (aI ν 136 (b + 6))) cd[k] (q_runC (q_w6 (aI ν 136 (b + 6))) (cd.take k) [])
      have := ih (by omega)
      show (stpC _ cd[k] _).length ≤ _
      omega
  refine wp_loop (σ := Unit) (fun f k _ => F_X7_work_L7 f (b + 4) (some e) (q_i3 k)) cd.length (fun k _ ρ => q_SK ρ b (q_runC (q_w6 (aI ν 136 (b + 6))) (cd.take k) []) ∧ Md [451, 2144] ν ρ) _ ?_ ?_ FU 0 () _ (by omega) (by show _ < 100000; omega) ⟨⟨by rw [mI_sI', if_pos ⟨rfl, rfl⟩]; rfl, fun i hi => absurd hi (Nat.not_lt_zero _)⟩, m0.wk rfl⟩
  · rintro f _ ρ ⟨S1, m1⟩
    show q_wp (F_X7_work_L7 (f + 1) (b + 4) (some e) (q_i3 cd.length)) ρ _
    have K1 := m1.k0 hK
    unfold F_X7_work_L7
    rw [wp_bn, wp_len, if_neg (tt_ne (m1.tt hT) (by rw [m1.2.2.1, hk]; omega)), m1.2.2.1, hk, m1.2.2.2.1, hn]
    refine ⟨by omega, ?_⟩
    rw [show Int32.ofNat cd.length = q_i3 cd.length from rfl, wp_ite, if_pos ((i3_le (a := cd.length) (by omega) (by omega)).mpr (Nat.le_refl _)), wp_bn, xpR7 K1, wp_bn]
    have l0 := w0 cd.length (Nat.le_refl _)
    refine q_wp_mono (c_pop K1 S1 (by omega)) ?_
    rintro _ ρ2 ⟨rfl, _, m2⟩
    rw [wp_rt, List.take_length]
    exact ⟨rfl, (m1.tr m2).wk rfl⟩
  · rintro f k _ ρ hk' ⟨S1, m1⟩ ih
    show q_wp (F_X7_work_L7 (f + 1) (b + 4) (some e) (q_i3 k)) ρ _
    have K1 := m1.k0 hK
    have T1 := m1.tt hT
    have l0 := w0 k (by omega)
    have ec : cd.getD k 0 = cd[k] := by rw [List.getD_eq_getElem?_getD, List.getElem?_eq_getElem hk']; rfl
    have es : q_runC (q_w6 (aI ν 136 (b + 6))) (cd.take (k + 1)) [] = stpC (q_w6 (aI ν 136 (b + 6))) (cd.getD k 0) (q_runC (q_w6 (aI ν 136 (b + 6))) (cd.take k) []) := by
      rw [List.take_succ_eq_append_getElem hk', runC_app, ec]; rfl
    have go : ∀ ρ2, q_SK ρ2 b (stpC (q_w6 (aI ν 136 (b + 6))) (cd.getD k 0) (q_runC (q_w6 (aI ν 136 (b + 6))) (cd.take k) [])) → Md [451, 2144] ρ ρ2 → q_wp (F_X7_work_L7 f (b + 4) (some e) (q_i3 (k + 1))) ρ2 (fun r ρ => r = hd0 (q_runC (q_w6 (aI ν 136 (b + 6))) cd []) ∧ Md [451, 2144] ν ρ) := fun ρ2 h2 m2 => ih () ρ2 ⟨by rw [es]; exact h2, (m1.tr m2).wk rfl⟩
    unfold F_X7_work_L7 F_X7_work_L55
    rw [wp_bn, wp_len, if_neg (tt_ne T1 (by rw [m1.2.2.1, hk]; omega)), m1.2.2.1, hk, m1.2.2.2.1, hn]
    refine ⟨by omega, ?_⟩
    rw [show Int32.ofNat cd.length = q_i3 cd.length from rfl, wp_ite, if_neg (fun z => by have := (i3_le (a := cd.length) (by omega) (by omega)).mp z; omega), wp_bn, wp_lI, m1.2.2.1, hk, m1.2.2.2.1, hn, inA_i3 (by omega), i3_toNat (by omega), m1.1.ai 128 rfl, hcd k hk', i3_1]
    refine ⟨rfl, hk', ?_⟩
    rw [wp_ite]
    by_cases hc : cd.getD k 0 < 0
    · rw [if_pos hc, wp_ite]
      by_cases h6 : cd.getD k 0 < -6
      · rw [if_pos h6, wp_bn, xpR7 K1, wp_bn]
        exact q_wp_mono (c_apply K1 T1 S1 (by omega) hc h6) fun _ ρ2 h => go ρ2 h.1 h.2
      · obtain ⟨n, hn6, en⟩ := neg_word hc h6
        rw [if_neg h6, en, wp_bn, xgP7_1 K1, wp_bn, xl136 K1, inA_i3 (by omega), i3_toNat (by omega), wp_bn, xpR7 K1, wp_bn]
        refine ⟨hn6, ?_⟩
        refine q_wp_mono (c_push K1 T1 S1 (by omega)) fun _ ρ2 h => go ρ2 ?_ h.2
        have : stpC (q_w6 (aI ν 136 (b + 6))) (cd.getD k 0) (q_runC (q_w6 (aI ν 136 (b + 6))) (cd.take k) []) = aI ρ 136 (b + 6) n :: q_runC (q_w6 (aI ν 136 (b + 6))) (cd.take k) [] := by
          unfold stpC
          rw [if_pos hc, if_neg h6, en, i3_toNat (by omega), m1.1.ai 136 rfl]
          unfold q_w6; rw [if_pos hn6]
        rw [this]; exact h.1
    · rw [if_neg hc, wp_bn, xpR7 K1, wp_bn]
      refine q_wp_mono (c_push K1 T1 S1 (by omega)) fun _ ρ2 h => go ρ2 ?_ h.2
      have : stpC (q_w6 (aI ν 136 (b + 6))) (cd.getD k 0) (q_runC (q_w6 (aI ν 136 (b + 6))) (cd.take k) []) = cd.getD k 0 :: q_runC (q_w6 (aI ν 136 (b + 6))) (cd.take k) [] := by
        unfold stpC; rw [if_neg hc]
      rw [this]; exact h.1
