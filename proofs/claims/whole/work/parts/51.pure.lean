def Md (S : List Nat) (μ ν : Mem) : Prop := q_Fr S μ ν ∧ (Zz μ → Zz ν) ∧ mK ν = mK μ ∧ mN ν = mN μ ∧ mX ν = mX μ ∧ mS ν = mS μ ∧ mP ν = mP μ ∧ aP ν = aP μ
theorem Md.rf (μ : Mem) : Md [] μ μ := ⟨q_Fr.rf μ, id, rfl, rfl, rfl, rfl, rfl, rfl⟩
theorem Md.tr {S T : List Nat} {μ ν ρ : Mem} (h : Md S μ ν) (g : Md T ν ρ) : Md (S ++ T) μ ρ := ⟨h.1.tr g.1, g.2.1 ∘ h.2.1, g.2.2.1.trans h.2.2.1, g.2.2.2.1.trans h.2.2.2.1, g.2.2.2.2.1.trans h.2.2.2.2.1, g.2.2.2.2.2.1.trans h.2.2.2.2.2.1, g.2.2.2.2.2.2.1.trans h.2.2.2.2.2.2.1, g.2.2.2.2.2.2.2.trans h.2.2.2.2.2.2.2⟩
theorem Md.wk {S T : List Nat} {μ ν : Mem} (h : Md S μ ν) (hs : subL S T = true) : Md T μ ν := ⟨h.1.wk hs, h.2⟩
theorem Md.sI {μ : Mem} {f a : Nat} {v : Int32} (h : mK μ a ≠ 0) : Md [f] μ (sI μ f a v) := ⟨q_Fr.sI μ f a v, fun z => z.sI h, rfl, rfl, rfl, rfl, rfl, rfl⟩
theorem Md.sL {μ : Mem} {f a : Nat} {v : Int64} (h : mK μ a ≠ 0) : Md [f] μ (sL μ f a v) := ⟨q_Fr.sL μ f a v, fun z => z.sL h, rfl, rfl, rfl, rfl, rfl, rfl⟩
theorem Md.tI {μ : Mem} {k a i : Nat} {v : Int32} (h : mK μ a ≠ 0) : Md [2000 + k] μ (tI μ k a i v) := ⟨q_Fr.tI μ k a i v, fun z => z.tI h, rfl, rfl, rfl, rfl, rfl, rfl⟩
theorem Md.tL {μ : Mem} {k a i : Nat} {v : Int64} (h : mK μ a ≠ 0) : Md [2000 + k] μ (tL μ k a i v) := ⟨q_Fr.tL μ k a i v, fun z => z.tL h, rfl, rfl, rfl, rfl, rfl, rfl⟩
theorem Md.k0 {S : List Nat} {μ ν : Mem} {b : Nat} (h : Md S μ ν) (hK : K0 μ b) : K0 ν b := by
  obtain ⟨_, _, h3, h4, _, _, h7, h8⟩ := h
  unfold K0; rw [h3, h4, h7, h8]; exact hK
theorem Md.wf {S : List Nat} {μ ν : Mem} (h : Md S μ ν) (hW : WF μ) (hS : S.contains 834 = false) : WF ν ∧ q_lst ν = q_lst μ := by
  obtain ⟨h1, h2, h3, h4, h5, h6, h7, h8⟩ := h
  have e1 := h1.i 834 hS
  have el : q_lst ν = q_lst μ := lst_congr e1 (by rw [h7]) (by rw [h8])
  obtain ⟨w1, w2, w3, w4, w5, q_w6⟩ := hW
  refine ⟨⟨h2 w1, ?_, ?_, ?_, ?_, ?_⟩, el⟩
  · unfold TT; rw [h1.t, h5, h3]; exact w2
  · intro a ha; rw [h3] at ha; unfold LOk; rw [e1, h7, h1.t, h3, h4, h8]; exact w3 a ha
  · intro a c ha hc; rw [h3] at ha hc; rw [h7, h1.t]; exact w4 a c ha hc
  · intro a c ha hc; rw [h3] at ha hc; rw [el]; exact w5 a c ha hc
  · intro a ha; rw [h3] at ha; rw [el]; exact q_w6 a ha
def q_LO : List Nat := [5, 10, 11, 12, 14, 15, 16, 18, 19, 20, 22, 23, 24, 26, 27, 28, 30, 31, 32, 33, 34, 35, 36, 37]
theorem K0.lo {μ : Mem} {b o : Nat} (h : K0 μ b) (ho : o ∈ q_LO) : mK μ (b + o) = 14 := by
  have : ∀ o ∈ q_LO, (o, 14) ∈ q_KT := by decide
  exact h.k o 14 (this o ho)
def Cs (S Ls : List Nat) (x s b : Nat) (μ ν : Mem) : Prop := WF ν ∧ q_Fr S μ ν ∧ (∀ o, o ∈ q_LO → o ∉ Ls → q_lst ν (b + o) = q_lst μ (b + o)) ∧ mX ν ≤ mX μ + x ∧ mS ν ≤ mS μ + s
theorem Cs.rf {b : Nat} {μ : Mem} (h : WF μ) : Cs [] [] 0 0 b μ μ := ⟨h, q_Fr.rf μ, fun _ _ _ => rfl, Nat.le_refl _, Nat.le_refl _⟩
theorem Cs.tr {S T L N : List Nat} {x y s t b : Nat} {μ ν ρ : Mem} (h : Cs S L x s b μ ν) (g : Cs T N y t b ν ρ) : Cs (S ++ T) (L ++ N) (x + y) (s + t) b μ ρ := by
  obtain ⟨h1, h2, h3, h4, h5⟩ := h
  obtain ⟨g1, g2, g3, g4, g5⟩ := g
  refine ⟨g1, h2.tr g2, fun o ho hn => ?_, by omega, by omega⟩
  rw [List.mem_append, not_or] at hn
  rw [g3 o ho hn.2, h3 o ho hn.1]
theorem Cs.wk {S T L N : List Nat} {x y s t b : Nat} {μ ν : Mem} (h : Cs S L x s b μ ν) (h1 : subL S T = true) (h2 : subL L N = true) (h3 : x ≤ y) (h4 : s ≤ t) : Cs T N y t b μ ν := by
  obtain ⟨g1, g2, g3, g4, g5⟩ := h
  refine ⟨g1, g2.wk h1, fun o ho hn => g3 o ho fun z => hn ?_, by omega, by omega⟩
  exact List.contains_iff_mem.mp ((List.all_eq_true.mp h2) o z)
theorem Md.cs {S : List Nat} {μ ν : Mem} {b : Nat} (h : Md S μ ν) (hW : WF μ) (hS : S.contains 834 = false) : Cs S [] 0 0 b μ ν := by
  obtain ⟨w, l⟩ := h.wf hW hS
  exact ⟨w, h.1, fun o _ _ => by rw [l], by rw [h.2.2.2.2.1]; exact Nat.le_refl _, by rw [h.2.2.2.2.2.1]; exact Nat.le_refl _⟩
theorem Cs.k0 {S L : List Nat} {x s b : Nat} {μ ν : Mem} (h : Cs S L x s b μ ν) (hK : K0 μ b) (hS : disj STAT S = true) : K0 ν b := hK.fr h.2.1 hS
theorem Cs.al {b k n s : Nat} {μ : Mem} (hW : WF μ) (hk : k ≠ 14) : Cs [] [] 1 s b μ (q_al k n s μ) := by
  obtain ⟨w, l⟩ := hW.nw k n s hk
  exact ⟨w, q_Fr.nw hW.z k n s, fun o _ _ => by rw [l], Nat.le_refl _, Nat.le_refl _⟩
theorem LU.cs {b o c : Nat} {l : List Nat} {μ ν : Mem} (hK : K0 μ b) (h : LU (b + o) l c μ ν) : Cs [832, 833, 834, 2372] [o] 1 c b μ ν := by
  obtain ⟨h1, h2, h3, h4, h5, h6, h7⟩ := h
  refine ⟨h1, h2, fun o' ho hn => h4 _ (hK.lo ho) (fun q => hn (by rw [List.mem_singleton]; omega)), h6, h7⟩
theorem WF.nin {μ : Mem} (h : WF μ) {a r : Nat} (ha : mK μ a = 14) (hr : mX μ ≤ r) : r ∉ q_lst μ a := fun q => by
  have := (h.ls ha).2.2.1 r q
  have := h.z.lt (a := r) (by omega)
  omega
theorem getD_mem {l : List Nat} {i : Nat} (h : i < l.length) : l.getD i 0 ∈ l := by
  rw [List.getD_eq_getElem?_getD, List.getElem?_eq_getElem h]; exact List.getElem_mem _
theorem getD_inj {l : List Nat} (hn : l.Nodup) {i j : Nat} (hi : i < l.length) (hj : j < l.length) (h : l.getD i 0 = l.getD j 0) : i = j := by
  rw [List.getD_eq_getElem?_getD, List.getD_eq_getElem?_getD, List.getElem?_eq_getElem hi, List.getElem?_eq_getElem hj] at h
  simp only [Option.getD_some] at h
  have hp := List.pairwise_iff_getElem.mp hn
  rcases Nat.lt_trichotomy i j with q | q | q
  · exact absurd h (hp i j hi hj q)
  · exact q
  · exact absurd h.symm (hp j i hj hi q)
theorem WF.inj {μ : Mem} (h : WF μ) {a : Nat} (ha : mK μ a = 14) {i j : Nat} (hi : i < (q_lst μ a).length) (hj : j < (q_lst μ a).length) (he : (q_lst μ a).getD i 0 = (q_lst μ a).getD j 0) : i = j := getD_inj (h.2.2.2.2.2 a ha) hi hj he
abbrev q_VM : Type := Nat × (Nat → Int64) × (Nat → Int32) × (Nat → Int32) × (Nat → Nat → Int32) × (Nat → Int64)
def vN (v : q_VM) : Nat := v.1
def vPd (v : q_VM) : Nat → Int64 := v.2.1
def vCl (v : q_VM) : Nat → Int32 := v.2.2.1
def vFa (v : q_VM) : Nat → Int32 := v.2.2.2.1
def vPs (v : q_VM) : Nat → Nat → Int32 := v.2.2.2.2.1
def vCs (v : q_VM) : Nat → Int64 := v.2.2.2.2.2
def mr (μ : Mem) (b i : Nat) : Nat := (q_lst μ (b + 33)).getD i 0
def MO (μ : Mem) (r : Nat) : Prop := mK μ r = 2 ∧ mP μ 64 r = some (r + 1) ∧ mK μ (r + 1) = 104 ∧ mN μ (r + 1) = 6
def q_CM (μ : Mem) (b : Nat) (v : q_VM) : Prop := (q_lst μ (b + 33)).length = vN v ∧ ∀ i, i < vN v → MO μ (mr μ b i) ∧ mL μ 66 (mr μ b i) = vPd v i ∧ mI μ 67 (mr μ b i) = vCl v i ∧ mI μ 68 (mr μ b i) = vFa v i ∧ mL μ 65 (mr μ b i) = vCs v i ∧ ∀ j, j < 6 → aI μ 104 (mr μ b i + 1) j = vPs v i j
abbrev VL : Type := (Nat → List (Int32 × Int32)) × (Nat → Int32)
def q_CL (μ : Mem) (b : Nat) (v : VL) : Prop := ∀ i, i < 6 → (q_lst μ (b + (12 + 4 * i))).map (fun r => (mI μ 576 r, mI μ 579 r)) = v.1 i ∧ (∀ r, r ∈ q_lst μ (b + (12 + 4 * i)) → mK μ r = 10) ∧ mI μ 131 (b + (9 + 4 * i)) = v.2 i
abbrev Od : Type := Nat × Int32 × Int32 × Int32 × Int32 × Int32
def q_oN (o : Od) : Nat := o.1
def oM (o : Od) : Int32 := o.2.1
def oB (o : Od) : Int32 := o.2.2.1
def oT (o : Od) : Int32 := o.2.2.2.1
def oP (o : Od) : Int32 := o.2.2.2.2.1
def oL (o : Od) : Int32 := o.2.2.2.2.2
def bef (s : Int32) (x y : Od) : Bool := if oP x = oP y then decide (q_oN x < q_oN y) else if s = 0 then decide (oP x < oP y) else decide (oP y < oP x)
def odAt (μ : Mem) (s t : Int32) (r : Nat) : Od := ((mI μ 578 r).toNatClampNeg, mI μ 576 r, s, t, mI μ 577 r, mI μ 579 r)
def sdO (i : Nat) (s : Int32) : Nat := if s = 0 then 11 + 4 * i else 10 + 4 * i
def sd (μ : Mem) (b i : Nat) (s : Int32) : List Od := (q_lst μ (b + sdO i s)).map (odAt μ s (q_i3 i))
abbrev q_VO : Type := List Od × Nat
def q_CO (μ : Mem) (b : Nat) (v : q_VO) : Prop := mI μ 713 b = q_i3 v.2 ∧ v.2 ≤ 1000 ∧ v.1.Pairwise (fun x y => q_oN x < q_oN y) ∧ (∀ x, x ∈ v.1 → q_oN x < v.2 ∧ (oB x = 0 ∨ oB x = 1) ∧ q_inR (oT x) 6) ∧ ∀ i, i < 6 → ∀ s, (s = 0 ∨ s = 1) → (∀ r, r ∈ q_lst μ (b + sdO i s) → mK μ r = 10 ∧ ∃ n, mI μ 578 r = q_i3 n ∧ n ≤ 1000) ∧ (sd μ b i s).Pairwise (fun x y => bef s x y = true) ∧ ∀ x, x ∈ sd μ b i s ↔ x ∈ v.1 ∧ oT x = q_i3 i ∧ oB x = s
abbrev q_VT : Type := Nat × (Nat → Nat → Int32)
def CT (μ : Mem) (b : Nat) (v : q_VT) : Prop := (q_lst μ (b + 34)).length = v.1 ∧ ∀ t, t < v.1 → mK μ ((q_lst μ (b + 34)).getD t 0) = 11 ∧ ∀ w, w < 7 → mI μ (640 + w) ((q_lst μ (b + 34)).getD t 0) = v.2 t w
def CR (μ : Mem) (b : Nat) (v : q_VT) : Prop := (q_lst μ (b + 35)).length = v.1 ∧ ∀ t, t < v.1 → mK μ ((q_lst μ (b + 35)).getD t 0) = 6 ∧ ∀ w, w < 4 → mI μ (320 + w) ((q_lst μ (b + 35)).getD t 0) = v.2 t w
def nTag (w : Nat) : Nat := [197, 195, 192, 194, 196, 193, 198].getD w 0
def q_CN (μ : Mem) (b : Nat) (v : q_VT) : Prop := (q_lst μ (b + 36)).length = v.1 ∧ ∀ t, t < v.1 → mK μ ((q_lst μ (b + 36)).getD t 0) = 4 ∧ ∀ w, w < 7 → mI μ (nTag w) ((q_lst μ (b + 36)).getD t 0) = v.2 t w
abbrev VD : Type := Nat × (Nat → Nat → Int32) × List (Int32 × Int32 × Int32 × Int32) × (Nat → Nat) × (Nat → Nat → Int64) × (Nat → Nat → Nat → Int32)
def dT (v : VD) : Nat := v.1
def dSt (v : VD) : Nat → Nat → Int32 := v.2.1
def dRt (v : VD) : List (Int32 × Int32 × Int32 × Int32) := v.2.2.1
def dNm (v : VD) : Nat → Nat := v.2.2.2.1
def dBa (v : VD) : Nat → Nat → Int64 := v.2.2.2.2.1
def dPs (v : VD) : Nat → Nat → Nat → Int32 := v.2.2.2.2.2
def Ch (μ : Mem) : Option Nat → List (Int32 × Int32) → Prop
  | p, [] => p = none
  | p, q :: l => ∃ r, p = some r ∧ mK μ r = 9 ∧ mI μ 512 r = q.1 ∧ mI μ 513 r = q.2 ∧ Ch μ (mP μ 514 r) l
def chn (v : VD) (d j : Nat) : List (Int32 × Int32) := if dSt v d j = -1 then [] else (((dRt v).filter fun q => q.1 = q_i3 j ∧ q.2.1 = q_i3 d).map fun q => (q.2.2.1, q.2.2.2)).reverse ++ [(dSt v d j, q_i3 d)]
def dy (μ : Mem) (b d : Nat) : Nat := (q_lst μ (b + 37)).getD d 0
def DO (μ : Mem) (r n : Nat) : Prop := mK μ r = 1 ∧ mP μ 0 r = some (r + 1) ∧ mP μ 1 r = some (r + 2) ∧ mP μ 2 r = some (r + 3) ∧ mK μ (r + 1) = 86 ∧ mK μ (r + 2) = 88 ∧ mK μ (r + 3) = 97 ∧ mN μ (r + 1) = 6 ∧ mN μ (r + 2) = 6 * n ∧ mN μ (r + 3) = n
def q_CD (μ : Mem) (b : Nat) (v : VD) : Prop := mI μ 712 b = q_i3 (dT v) ∧ mI μ 714 b = q_i3 (dRt v).length ∧ (q_lst μ (b + 37)).length = dT v ∧ ∀ d, d < dT v → DO μ (dy μ b d) (dNm v d) ∧ (∀ j, j < 6 → Ch μ (aP μ 86 (dy μ b d + 1) j) (chn v d j)) ∧ ∀ i, i < dNm v d → aL μ 97 (dy μ b d + 3) i = dBa v d i ∧ ∀ j, j < 6 → aI μ 88 (dy μ b d + 2) (6 * i + j) = dPs v d i j
abbrev VP : Type := Nat × (Nat → Int32) × Int32 × Int32
def CP (μ : Mem) (b : Nat) (v : VP) : Prop := mI μ 257 (b + 1) = q_i3 v.1 ∧ mI μ 258 (b + 1) = v.2.2.1 ∧ mI μ 259 (b + 1) = v.2.2.2 ∧ ∀ i, i < v.1 → aI μ 115 (b + 2) i = v.2.1 i
def sm6 (f : Nat → Int64) : Int64 := f 0 + f 1 + f 2 + f 3 + f 4 + f 5
def q_RM (μ : Mem) (b : Nat) (v : q_VM) : Prop := mI μ 778 (b + 38) = q_i3 (vN v) ∧ ∀ i, i < 12 → aL μ 209 (b + 45) i = vPd v i ∧ aI μ 218 (b + 46) i = vCl v i ∧ aI μ 226 (b + 47) i = vFa v i ∧ sm6 (fun j => aL μ 241 (b + 49) (6 * i + j)) = vCs v i ∧ ∀ j, j < 6 → aI μ 232 (b + 48) (6 * i + j) = vPs v i j
def q_RL (μ : Mem) (b : Nat) (v : VL) : Prop := ∀ i, i < 6 → aI μ 264 (b + 52) i = q_i3 (v.1 i).length ∧ aI μ 274 (b + 53) i = v.2 i ∧ ∀ k, k < (v.1 i).length → aI μ 248 (b + 50) (1600 * i + k) = ((v.1 i).getD k (0, 0)).1 ∧ aI μ 256 (b + 51) (1600 * i + k) = ((v.1 i).getD k (0, 0)).2
def q_o0 : Od := (0, 0, 0, 0, 0, 0)
def RO (μ : Mem) (b : Nat) (v : q_VO) : Prop := mI μ 789 (b + 38) = q_i3 v.1.length ∧ ∀ k, k < v.1.length → aI μ 280 (b + 54) (5 * k) = oM (v.1.getD k q_o0) ∧ aI μ 280 (b + 54) (5 * k + 1) = oB (v.1.getD k q_o0) ∧ aI μ 280 (b + 54) (5 * k + 2) = oT (v.1.getD k q_o0) ∧ aI μ 280 (b + 54) (5 * k + 3) = oP (v.1.getD k q_o0) ∧ aI μ 280 (b + 54) (5 * k + 4) = oL (v.1.getD k q_o0)
def RT (μ : Mem) (b : Nat) (v : q_VT) : Prop := mI μ 791 (b + 38) = q_i3 v.1 ∧ ∀ t, t < v.1 → ∀ w, w < 7 → aI μ 288 (b + 55) (7 * t + w) = v.2 t w
def RR (μ : Mem) (b : Nat) (v : q_VT) : Prop := mI μ 800 (b + 38) = q_i3 v.1 ∧ ∀ t, t < v.1 → ∀ w, w < 4 → aI μ 336 (b + 61) (4 * t + w) = v.2 t w
def q_RN (μ : Mem) (b : Nat) (v : q_VT) : Prop := mI μ 802 (b + 38) = q_i3 v.1 ∧ ∀ t, t < v.1 → ∀ w, w < 7 → aI μ 344 (b + 62) (7 * t + w) = v.2 t w
def q_q4 : Int32 × Int32 × Int32 × Int32 := (0, 0, 0, 0)
def RD (μ : Mem) (b : Nat) (v : VD) : Prop := mI μ 792 (b + 38) = q_i3 (dT v) ∧ mI μ 798 (b + 38) = q_i3 (dRt v).length ∧ (∀ d, d < dT v → (∀ j, j < 6 → aI μ 296 (b + 56) (6 * d + j) = dSt v d j) ∧ ∀ i, i < 12 → aL μ 305 (b + 57) (12 * d + i) - sm6 (fun j => aL μ 321 (b + 59) (72 * d + (6 * i + j))) = dBa v d i ∧ ∀ j, j < 6 → aI μ 312 (b + 58) (72 * d + (6 * i + j)) = dPs v d i j) ∧
  ∀ k, k < (dRt v).length → aI μ 328 (b + 60) (4 * k) = ((dRt v).getD k q_q4).1 ∧ aI μ 328 (b + 60) (4 * k + 1) = ((dRt v).getD k q_q4).2.1 ∧ aI μ 328 (b + 60) (4 * k + 2) = ((dRt v).getD k q_q4).2.2.1 ∧ aI μ 328 (b + 60) (4 * k + 3) = ((dRt v).getD k q_q4).2.2.2
def RP (μ : Mem) (b : Nat) (v : VP) : Prop := mI μ 769 (b + 38) = q_i3 v.1 ∧ mI μ 770 (b + 38) = v.2.2.1 ∧ mI μ 771 (b + 38) = v.2.2.2 ∧ ∀ i, i < v.1 → aI μ 160 (b + 39) i = v.2.1 i

abbrev q_Ru : Type := Int32 × Int32 × ((Nat → Int32) → Int32)
def r0 : q_Ru := (0, 0, fun _ => 0)
def q_w6 (f : Nat → Int32) : Nat → Int32 := fun j => if j < 6 then f j else 0
def DenC (μ : Mem) (b e : Nat) (val : (Nat → Int32) → Int32) : Prop := mK μ e = 128 ∧ mN μ e ≤ 60 ∧ ∀ ν, K0 ν b → TT ν → mK ν e = 128 → mN ν e = mN μ e → aI ν 128 e = aI μ 128 e → q_wp (F_X7_work (b + 4) (some e)) ν (fun r ρ => r = val (q_w6 (aI ν 136 (b + 6))) ∧ Md [451, 2144] ν ρ)
def rl (μ : Mem) (b k : Nat) : Nat := (q_lst μ (b + 5)).getD k 0
def CU (μ : Mem) (b : Nat) (v : List q_Ru) : Prop := (q_lst μ (b + 5)).length = v.length ∧ v.length ≤ 30 ∧ ∀ k, k < v.length → mK μ (rl μ b k) = 7 ∧ mI μ 384 (rl μ b k) = (v.getD k r0).1 ∧ mI μ 385 (rl μ b k) = (v.getD k r0).2.1 ∧ ∃ e, mP μ 386 (rl μ b k) = some e ∧ DenC μ b e (v.getD k r0).2.2
def DenR (μ : Mem) (b k : Nat) (val : (Nat → Int32) → Int32) : Prop := ∀ ν, K0 ν b → aI ν 184 (b + 42) k = aI μ 184 (b + 42) k → (∀ i, i < 60 → aI ν 192 (b + 43) (60 * k + i) = aI μ 192 (b + 43) (60 * k + i) ∧ aI ν 200 (b + 44) (60 * k + i) = aI μ 200 (b + 44) (60 * k + i)) → mI ν 813 (b + 38) = q_i3 k → mI ν 812 (b + 38) = 0 → q_wp (F_X12_expr (b + 38)) ν (fun r ρ => r = val (q_w6 (aI ν 352 (b + 63))) ∧ Md [812] ν ρ)
def RU (μ : Mem) (b : Nat) (v : List q_Ru) : Prop := mI μ 777 (b + 38) = q_i3 v.length ∧ v.length ≤ 30 ∧ ∀ k, k < v.length → aI μ 168 (b + 40) k = (v.getD k r0).1 ∧ aI μ 176 (b + 41) k = (v.getD k r0).2.1 ∧ DenR μ b k (v.getD k r0).2.2
theorem q_CM.fr {S : List Nat} {μ ν : Mem} {b : Nat} {v : q_VM} (h : q_CM μ b v) (f : q_Fr S μ ν) (hl : q_lst ν (b + 33) = q_lst μ (b + 33)) (hS : disj [64, 65, 66, 67, 68, 2104] S = true) : q_CM ν b v := by
  obtain ⟨h1, h2⟩ := h
  have el : ∀ i, mr ν b i = mr μ b i := fun i => by unfold mr; rw [hl]
  refine ⟨by rw [hl]; exact h1, fun i hi => ?_⟩
  obtain ⟨⟨m1, m2, m3, m4⟩, p1, p2, p3, p4, p5⟩ := h2 i hi
  rw [el, f.l 66 (disj_nc hS (by decide)), f.i 67 (disj_nc hS (by decide)), f.i 68 (disj_nc hS (by decide)), f.l 65 (disj_nc hS (by decide)), f.ai 104 (disj_nc hS (by decide))]
  exact ⟨⟨f.k m1 (by omega), by rw [f.p 64 (disj_nc hS (by decide))]; exact m2, f.k m3 (by omega), f.n (by omega) m4⟩, p1, p2, p3, p4, p5⟩
theorem q_CL.fr' {μ ν : Mem} {b : Nat} {v : VL} (h : q_CL μ b v) (hl : ∀ i, i < 6 → q_lst ν (b + (12 + 4 * i)) = q_lst μ (b + (12 + 4 * i))) (hk : ∀ a, mK μ a ≠ 0 → mK ν a = mK μ a) (h1 : ∀ i, i < 6 → ∀ r, r ∈ q_lst μ (b + (12 + 4 * i)) → mI ν 576 r = mI μ 576 r ∧ mI ν 579 r = mI μ 579 r) (h2 : ∀ i, i < 6 → mI ν 131 (b + (9 + 4 * i)) = mI μ 131 (b + (9 + 4 * i))) : q_CL ν b v := by
  intro i hi
  obtain ⟨g1, g2, g3⟩ := h i hi
  rw [hl i hi]
  refine ⟨?_, fun r hr => by rw [hk r (by rw [g2 r hr]; omega)]; exact g2 r hr, by rw [h2 i hi]; exact g3⟩
  rw [← g1]
  apply List.map_congr_left
  intro r hr
  obtain ⟨e1, e2⟩ := h1 i hi r hr
  rw [e1, e2]
theorem q_CL.fr {S : List Nat} {μ ν : Mem} {b : Nat} {v : VL} (h : q_CL μ b v) (f : q_Fr S μ ν) (hl : ∀ i, i < 6 → q_lst ν (b + (12 + 4 * i)) = q_lst μ (b + (12 + 4 * i))) (hS : disj [576, 579, 131] S = true) : q_CL ν b v :=
  h.fr' hl (fun a ha => f.k rfl ha) (fun i hi r _ => ⟨by rw [f.i 576 (disj_nc hS (by decide))], by rw [f.i 579 (disj_nc hS (by decide))]⟩) (fun i hi => by rw [f.i 131 (disj_nc hS (by decide))])
theorem sdO_lo {i : Nat} (hi : i < 6) (s : Int32) : sdO i s ∈ q_LO := by
  have : ∀ j : Fin 6, 11 + 4 * j.1 ∈ q_LO ∧ 10 + 4 * j.1 ∈ q_LO := by decide
  obtain ⟨h1, h2⟩ := this ⟨i, hi⟩
  unfold sdO; split
  · exact h1
  · exact h2
theorem lgO_lo {i : Nat} (hi : i < 6) : 12 + 4 * i ∈ q_LO := by
  have : ∀ j : Fin 6, 12 + 4 * j.1 ∈ q_LO := by decide
  exact this ⟨i, hi⟩
theorem q_CO.fr' {μ ν : Mem} {b : Nat} {v : q_VO} (h : q_CO μ b v) (hl : ∀ i, i < 6 → ∀ s, q_lst ν (b + sdO i s) = q_lst μ (b + sdO i s)) (hk : ∀ a, mK μ a ≠ 0 → mK ν a = mK μ a) (h1 : ∀ i, i < 6 → ∀ s, ∀ r, r ∈ q_lst μ (b + sdO i s) → mI ν 576 r = mI μ 576 r ∧ mI ν 577 r = mI μ 577 r ∧ mI ν 578 r = mI μ 578 r ∧ mI ν 579 r = mI μ 579 r) (h2 : mI ν 713 b = mI μ 713 b) : q_CO ν b v := by
  obtain ⟨g1, g2, g3, g4, g5⟩ := h
  refine ⟨by rw [h2]; exact g1, g2, g3, g4, fun i hi s hs => ?_⟩
  obtain ⟨q1, q2, q3⟩ := g5 i hi s hs
  have e : sd ν b i s = sd μ b i s := by
    unfold sd; rw [hl i hi s]
    apply List.map_congr_left
    intro r hr
    obtain ⟨e1, e2, e3, e4⟩ := h1 i hi s r hr
    unfold odAt; rw [e1, e2, e3, e4]
  rw [e]
  refine ⟨fun r hr => ?_, q2, q3⟩
  rw [hl i hi s] at hr
  obtain ⟨z1, z2⟩ := q1 r hr
  rw [hk r (by rw [z1]; omega), (h1 i hi s r hr).2.2.1]
  exact ⟨z1, z2⟩
theorem q_CO.fr {S : List Nat} {μ ν : Mem} {b : Nat} {v : q_VO} (h : q_CO μ b v) (f : q_Fr S μ ν) (hl : ∀ i, i < 6 → ∀ s, q_lst ν (b + sdO i s) = q_lst μ (b + sdO i s)) (hS : disj [576, 577, 578, 579, 713] S = true) : q_CO ν b v :=
  h.fr' hl (fun a ha => f.k rfl ha) (fun i hi s r _ => ⟨by rw [f.i 576 (disj_nc hS (by decide))], by rw [f.i 577 (disj_nc hS (by decide))], by rw [f.i 578 (disj_nc hS (by decide))], by rw [f.i 579 (disj_nc hS (by decide))]⟩) (by rw [f.i 713 (disj_nc hS (by decide))])
theorem CT.fr {S : List Nat} {μ ν : Mem} {b : Nat} {v : q_VT} (h : CT μ b v) (f : q_Fr S μ ν) (hl : q_lst ν (b + 34) = q_lst μ (b + 34)) (hS : disj [640, 641, 642, 643, 644, 645, 646] S = true) : CT ν b v := by
  obtain ⟨h1, h2⟩ := h
  refine ⟨by rw [hl]; exact h1, fun t ht => ?_⟩
  obtain ⟨p1, p2⟩ := h2 t ht
  rw [hl]
  have hw : ∀ w : Fin 7, 640 + w.1 ∈ [640, 641, 642, 643, 644, 645, 646] := by decide
  exact ⟨f.k p1 (by omega), fun w hw' => by rw [f.i _ (disj_nc hS (hw ⟨w, hw'⟩))]; exact p2 w hw'⟩
theorem CR.fr {S : List Nat} {μ ν : Mem} {b : Nat} {v : q_VT} (h : CR μ b v) (f : q_Fr S μ ν) (hl : q_lst ν (b + 35) = q_lst μ (b + 35)) (hS : disj [320, 321, 322, 323] S = true) : CR ν b v := by
  obtain ⟨h1, h2⟩ := h
  refine ⟨by rw [hl]; exact h1, fun t ht => ?_⟩
  obtain ⟨p1, p2⟩ := h2 t ht
  rw [hl]
  have hw : ∀ w : Fin 4, 320 + w.1 ∈ [320, 321, 322, 323] := by decide
  exact ⟨f.k p1 (by omega), fun w hw' => by rw [f.i _ (disj_nc hS (hw ⟨w, hw'⟩))]; exact p2 w hw'⟩
theorem q_CN.fr {S : List Nat} {μ ν : Mem} {b : Nat} {v : q_VT} (h : q_CN μ b v) (f : q_Fr S μ ν) (hl : q_lst ν (b + 36) = q_lst μ (b + 36)) (hS : disj [192, 193, 194, 195, 196, 197, 198] S = true) : q_CN ν b v := by
  obtain ⟨h1, h2⟩ := h
  refine ⟨by rw [hl]; exact h1, fun t ht => ?_⟩
  obtain ⟨p1, p2⟩ := h2 t ht
  rw [hl]
  have hw : ∀ w : Fin 7, nTag w.1 ∈ [192, 193, 194, 195, 196, 197, 198] := by decide
  exact ⟨f.k p1 (by omega), fun w hw' => by rw [f.i _ (disj_nc hS (hw ⟨w, hw'⟩))]; exact p2 w hw'⟩
theorem Ch.fr {μ ν : Mem} (hk : ∀ a, mK μ a ≠ 0 → mK ν a = mK μ a) (h1 : ∀ a, mK μ a = 9 → mI ν 512 a = mI μ 512 a ∧ mI ν 513 a = mI μ 513 a ∧ mP ν 514 a = mP μ 514 a) : ∀ (l : List (Int32 × Int32)) (p : Option Nat), Ch μ p l → Ch ν p l
  | [], p, h => h
  | q :: l, p, h => by
    obtain ⟨r, e, k, g1, g2, g3⟩ := h
    obtain ⟨e1, e2, e3⟩ := h1 r k
    exact ⟨r, e, by rw [hk r (by omega)]; exact k, by rw [e1]; exact g1, by rw [e2]; exact g2, Ch.fr hk h1 l _ (by rw [e3]; exact g3)⟩
theorem q_CD.fr {S : List Nat} {μ ν : Mem} {b : Nat} {v : VD} (h : q_CD μ b v) (f : q_Fr S μ ν) (hl : q_lst ν (b + 37) = q_lst μ (b + 37)) (hS : disj [0, 1, 2, 712, 714, 512, 513, 514, 2086, 2088, 2097] S = true) : q_CD ν b v := by
  obtain ⟨h1, h2, h3, h4⟩ := h
  have el : ∀ i, dy ν b i = dy μ b i := fun i => by unfold dy; rw [hl]
  refine ⟨by rw [f.i 712 (disj_nc hS (by decide))]; exact h1, by rw [f.i 714 (disj_nc hS (by decide))]; exact h2, by rw [hl]; exact h3, fun d hd => ?_⟩
  obtain ⟨⟨d1, d2, d3, d4, d5, d6, d7, d8, d9, d10⟩, g1, g2⟩ := h4 d hd
  rw [el, f.alg 97 (disj_nc hS (by decide)), f.ai 88 (disj_nc hS (by decide)), f.ap 86 (disj_nc hS (by decide))]
  refine ⟨⟨f.k d1 (by omega), by rw [f.p 0 (disj_nc hS (by decide))]; exact d2, by rw [f.p 1 (disj_nc hS (by decide))]; exact d3, by rw [f.p 2 (disj_nc hS (by decide))]; exact d4, f.k d5 (by omega), f.k d6 (by omega), f.k d7 (by omega), f.n (by omega) d8, f.n (by omega) d9, f.n (by omega) d10⟩, fun j hj => ?_, g2⟩
  exact Ch.fr (fun a ha => f.k rfl ha) (fun a _ => ⟨by rw [f.i 512 (disj_nc hS (by decide))], by rw [f.i 513 (disj_nc hS (by decide))], by rw [f.p 514 (disj_nc hS (by decide))]⟩) _ _ (g1 j hj)
theorem CP.fr {S : List Nat} {μ ν : Mem} {b : Nat} {v : VP} (h : CP μ b v) (f : q_Fr S μ ν) (hS : disj [257, 258, 259, 2115] S = true) : CP ν b v := by
  obtain ⟨h1, h2, h3, h4⟩ := h
  unfold CP
  rw [f.i 257 (disj_nc hS (by decide)), f.i 258 (disj_nc hS (by decide)), f.i 259 (disj_nc hS (by decide)), f.ai 115 (disj_nc hS (by decide))]
  exact ⟨h1, h2, h3, h4⟩
theorem CU.fr {S : List Nat} {μ ν : Mem} {b : Nat} {v : List q_Ru} (h : CU μ b v) (f : q_Fr S μ ν) (hl : q_lst ν (b + 5) = q_lst μ (b + 5)) (hS : disj [384, 385, 386, 2128] S = true) : CU ν b v := by
  obtain ⟨h1, h0, h2⟩ := h
  have el : ∀ i, rl ν b i = rl μ b i := fun i => by unfold rl; rw [hl]
  refine ⟨by rw [hl]; exact h1, h0, fun k hk => ?_⟩
  obtain ⟨g1, g2, g3, e, g4, d1, d2, d3⟩ := h2 k hk
  rw [el, f.i 384 (disj_nc hS (by decide)), f.i 385 (disj_nc hS (by decide)), f.p 386 (disj_nc hS (by decide))]
  refine ⟨f.k g1 (by omega), g2, g3, e, g4, f.k d1 (by omega), by rw [f.n (by omega) rfl]; exact d2, fun ρ q1 qt q2 q3 q_q4 => d3 ρ q1 qt q2 ?_ ?_⟩
  · rw [q3]; exact f.n (by omega) rfl
  · rw [q_q4, f.ai 128 (disj_nc hS (by decide))]
theorem q_RM.fr {S : List Nat} {μ ν : Mem} {b : Nat} {v : q_VM} (h : q_RM μ b v) (f : q_Fr S μ ν) (hS : disj [778, 2209, 2218, 2226, 2232, 2241] S = true) : q_RM ν b v := by
  unfold q_RM
  rw [f.i 778 (disj_nc hS (by decide)), f.alg 209 (disj_nc hS (by decide)), f.ai 218 (disj_nc hS (by decide)), f.ai 226 (disj_nc hS (by decide)), f.alg 241 (disj_nc hS (by decide)), f.ai 232 (disj_nc hS (by decide))]
  exact h
theorem q_RL.fr {S : List Nat} {μ ν : Mem} {b : Nat} {v : VL} (h : q_RL μ b v) (f : q_Fr S μ ν) (hS : disj [2264, 2274, 2248, 2256] S = true) : q_RL ν b v := by
  unfold q_RL
  rw [f.ai 264 (disj_nc hS (by decide)), f.ai 274 (disj_nc hS (by decide)), f.ai 248 (disj_nc hS (by decide)), f.ai 256 (disj_nc hS (by decide))]
  exact h
theorem RO.fr {S : List Nat} {μ ν : Mem} {b : Nat} {v : q_VO} (h : RO μ b v) (f : q_Fr S μ ν) (hS : disj [789, 2280] S = true) : RO ν b v := by
  unfold RO
  rw [f.i 789 (disj_nc hS (by decide)), f.ai 280 (disj_nc hS (by decide))]
  exact h
theorem RT.fr {S : List Nat} {μ ν : Mem} {b : Nat} {v : q_VT} (h : RT μ b v) (f : q_Fr S μ ν) (hS : disj [791, 2288] S = true) : RT ν b v := by
  unfold RT
  rw [f.i 791 (disj_nc hS (by decide)), f.ai 288 (disj_nc hS (by decide))]
  exact h
theorem RR.fr {S : List Nat} {μ ν : Mem} {b : Nat} {v : q_VT} (h : RR μ b v) (f : q_Fr S μ ν) (hS : disj [800, 2336] S = true) : RR ν b v := by
  unfold RR
  rw [f.i 800 (disj_nc hS (by decide)), f.ai 336 (disj_nc hS (by decide))]
  exact h
theorem q_RN.fr {S : List Nat} {μ ν : Mem} {b : Nat} {v : q_VT} (h : q_RN μ b v) (f : q_Fr S μ ν) (hS : disj [802, 2344] S = true) : q_RN ν b v := by
  unfold q_RN
  rw [f.i 802 (disj_nc hS (by decide)), f.ai 344 (disj_nc hS (by decide))]
  exact h
theorem RD.fr {S : List Nat} {μ ν : Mem} {b : Nat} {v : VD} (h : RD μ b v) (f : q_Fr S μ ν) (hS : disj [792, 798, 2296, 2305, 2321, 2312, 2328] S = true) : RD ν b v := by
  unfold RD
  rw [f.i 792 (disj_nc hS (by decide)), f.i 798 (disj_nc hS (by decide)), f.ai 296 (disj_nc hS (by decide)), f.alg 305 (disj_nc hS (by decide)), f.alg 321 (disj_nc hS (by decide)), f.ai 312 (disj_nc hS (by decide)), f.ai 328 (disj_nc hS (by decide))]
  exact h
theorem RP.fr {S : List Nat} {μ ν : Mem} {b : Nat} {v : VP} (h : RP μ b v) (f : q_Fr S μ ν) (hS : disj [769, 770, 771, 2160] S = true) : RP ν b v := by
  unfold RP
  rw [f.i 769 (disj_nc hS (by decide)), f.i 770 (disj_nc hS (by decide)), f.i 771 (disj_nc hS (by decide)), f.ai 160 (disj_nc hS (by decide))]
  exact h
theorem RU.fr {S : List Nat} {μ ν : Mem} {b : Nat} {v : List q_Ru} (h : RU μ b v) (f : q_Fr S μ ν) (hS : disj [777, 2168, 2176, 2184, 2192, 2200] S = true) : RU ν b v := by
  unfold RU DenR
  rw [f.i 777 (disj_nc hS (by decide)), f.ai 168 (disj_nc hS (by decide)), f.ai 176 (disj_nc hS (by decide)), f.ai 184 (disj_nc hS (by decide)), f.ai 192 (disj_nc hS (by decide)), f.ai 200 (disj_nc hS (by decide))]
  exact h

abbrev q_St : Type := q_VM × VL × q_VO × q_VT × VD × q_VT × q_VT × List q_Ru × VP
def sM (s : q_St) : q_VM := s.1
def sG (s : q_St) : VL := s.2.1
def sO (s : q_St) : q_VO := s.2.2.1
def sT (s : q_St) : q_VT := s.2.2.2.1
def sD (s : q_St) : VD := s.2.2.2.2.1
def sR (s : q_St) : q_VT := s.2.2.2.2.2.1
def q_sN (s : q_St) : q_VT := s.2.2.2.2.2.2.1
def sU (s : q_St) : List q_Ru := s.2.2.2.2.2.2.2.1
def sP' (s : q_St) : VP := s.2.2.2.2.2.2.2.2
def q_AC (μ : Mem) (b : Nat) (s : q_St) : Prop := q_CM μ b (sM s) ∧ q_CL μ b (sG s) ∧ q_CO μ b (sO s) ∧ CT μ b (sT s) ∧ q_CD μ b (sD s) ∧ CR μ b (sR s) ∧ q_CN μ b (q_sN s) ∧ CU μ b (sU s) ∧ CP μ b (sP' s)
def q_AR (μ : Mem) (b : Nat) (s : q_St) : Prop := q_RM μ b (sM s) ∧ q_RL μ b (sG s) ∧ RO μ b (sO s) ∧ RT μ b (sT s) ∧ RD μ b (sD s) ∧ RR μ b (sR s) ∧ q_RN μ b (q_sN s) ∧ RU μ b (sU s) ∧ RP μ b (sP' s)
def CS : List Nat := [0, 1, 2, 64, 65, 66, 67, 68, 131, 192, 193, 194, 195, 196, 197, 198, 257, 258, 259, 260, 261, 262, 263, 264, 266, 320, 321, 322, 323, 384, 385, 386, 451, 512, 513, 514, 576, 577, 578, 579, 640, 641, 642, 643, 644, 645, 646, 712, 713, 714, 832, 833, 834, 2086, 2088, 2097, 2104, 2115, 2120, 2128, 2136, 2144, 2372, 2377]
def RS : List Nat := [769, 770, 771, 777, 778, 789, 791, 792, 798, 800, 802, 803, 804, 805, 806, 807, 808, 809, 810, 811, 812, 813, 2160, 2168, 2176, 2184, 2192, 2200, 2209, 2218, 2226, 2232, 2241, 2248, 2256, 2264, 2274, 2280, 2288, 2296, 2305, 2312, 2321, 2328, 2336, 2344, 2352, 2360]
theorem q_AR.fr {μ ν : Mem} {b : Nat} {s : q_St} (h : q_AR μ b s) (f : q_Fr CS μ ν) : q_AR ν b s := by
  obtain ⟨h1, h2, h3, h4, h5, h6, h7, h8, h9⟩ := h
  exact ⟨h1.fr f rfl, h2.fr f rfl, h3.fr f rfl, h4.fr f rfl, h5.fr f rfl, h6.fr f rfl, h7.fr f rfl, h8.fr f rfl, h9.fr f rfl⟩
theorem q_AC.fr {S : List Nat} {μ ν : Mem} {b : Nat} {s : q_St} (h : q_AC μ b s) (f : q_Fr S μ ν) (hS : disj S [0, 1, 2, 64, 65, 66, 67, 68, 131, 192, 193, 194, 195, 196, 197, 198, 257, 258, 259, 320, 321, 322, 323, 384, 385, 386, 512, 513, 514, 576, 577, 578, 579, 640, 641, 642, 643, 644, 645, 646, 712, 713, 714, 2086, 2088, 2097, 2104, 2115, 2128] = true) (hl : ∀ o, o ∈ q_LO → q_lst ν (b + o) = q_lst μ (b + o)) : q_AC ν b s := by
  obtain ⟨h1, h2, h3, h4, h5, h6, h7, h8, h9⟩ := h
  have dd : ∀ T : List Nat, subL T [0, 1, 2, 64, 65, 66, 67, 68, 131, 192, 193, 194, 195, 196, 197, 198, 257, 258, 259, 320, 321, 322, 323, 384, 385, 386, 512, 513, 514, 576, 577, 578, 579, 640, 641, 642, 643, 644, 645, 646, 712, 713, 714, 2086, 2088, 2097, 2104, 2115, 2128] = true → disj T S = true := by
    intro T hT
    refine List.all_eq_true.mpr fun x hx => ?_
    have h1 := List.contains_iff_mem.mp (List.all_eq_true.mp hT x hx)
    cases hc : S.contains x with
    | false => rfl
    | true =>
      have := disj_nc hS (List.contains_iff_mem.mp hc)
      rw [List.contains_iff_mem.mpr h1] at this; cases this
  exact ⟨h1.fr f (hl 33 (by decide)) (dd _ rfl), h2.fr f (fun i hi => hl _ (lgO_lo hi)) (dd _ rfl), h3.fr f (fun i hi s => hl _ (sdO_lo hi s)) (dd _ rfl), h4.fr f (hl 34 (by decide)) (dd _ rfl), h5.fr f (hl 37 (by decide)) (dd _ rfl), h6.fr f (hl 35 (by decide)) (dd _ rfl), h7.fr f (hl 36 (by decide)) (dd _ rfl), h8.fr f (hl 5 (by decide)) (dd _ rfl), h9.fr f (dd _ rfl)⟩
theorem sdNo {Ls : List Nat} (h : ∀ j : Fin 6, 11 + 4 * j.1 ∉ Ls ∧ 10 + 4 * j.1 ∉ Ls) {i : Nat} (hi : i < 6) (s : Int32) : sdO i s ∉ Ls := by
  obtain ⟨h1, h2⟩ := h ⟨i, hi⟩
  unfold sdO; split
  · exact h1
  · exact h2
theorem lgNo {Ls : List Nat} (h : ∀ j : Fin 6, 12 + 4 * j.1 ∉ Ls) {i : Nat} (hi : i < 6) : 12 + 4 * i ∉ Ls := h ⟨i, hi⟩
def tI' (x : Int32) : Int := x.toInt
def IM (v : q_VM) (c : Nat) : Prop := vN v ≤ 12 ∧ (∀ i, vN v ≤ i → i < 12 → vPd v i = 0 ∧ vCl v i = 0 ∧ vFa v i = 0 ∧ vCs v i = 0 ∧ ∀ j, j < 6 → vPs v i j = 0) ∧ (∀ i, i < 12 → (vCl v i = 0 ∨ vCl v i = 1) ∧ (vFa v i = 0 ∨ vFa v i = 1)) ∧ (∀ i, i < 12 → ∀ j, j < 6 → - (100 * c : Int) ≤ (vPs v i j).toInt ∧ (vPs v i j).toInt ≤ 100 * c) ∧ ∀ j, j < 6 → ((List.range 12).map fun i => (vPs v i j).toInt).sum = 0
def q_IL (v : VL) (n nt c : Nat) : Prop := ∀ j, j < 6 → (v.1 j).length ≤ nt + c ∧ (∀ q, q ∈ v.1 j → q_inR q.1 n ∧ 0 < q.2.toInt ∧ q.2.toInt ≤ 50) ∧ (v.2 j = 0 ∨ v.2 j = 1)
def IO' (v : q_VO) (n c : Nat) : Prop := v.1.length ≤ 120 ∧ v.2 ≤ c ∧ ∀ x, x ∈ v.1 → q_inR (oM x) n ∧ 0 < (oL x).toInt ∧ (oL x).toInt ≤ 50 ∧ 1 ≤ (oP x).toInt ∧ (oP x).toInt ≤ 10000
def IT (v : q_VT) (n td : Nat) : Prop := v.1 ≤ 700 ∧ (∀ t, t < v.1 → q_inR (v.2 t 0) 6 ∧ 1 ≤ (v.2 t 1).toInt ∧ (v.2 t 1).toInt ≤ 10000 ∧ 1 ≤ (v.2 t 2).toInt ∧ (v.2 t 2).toInt ≤ 50 ∧ q_inR (v.2 t 3) n ∧ q_inR (v.2 t 4) n ∧ q_inR (v.2 t 5) (td + 1) ∧ (v.2 t 6 = 0 ∨ v.2 t 6 = 1)) ∧ ∀ t, t + 1 < v.1 → (v.2 t 5).toInt ≤ (v.2 (t + 1) 5).toInt
def ID (v : VD) (n : Nat) : Prop := dT v ≤ 150 ∧ (dRt v).length ≤ 100 ∧ (∀ d, d < dT v → dNm v d ≤ n ∧ (∀ j, j < 6 → dSt v d j = -1 ∨ (1 ≤ (dSt v d j).toInt ∧ (dSt v d j).toInt ≤ 10000)) ∧ ∀ i, dNm v d ≤ i → i < 12 → dBa v d i = 0 ∧ ∀ j, j < 6 → dPs v d i j = 0) ∧ (∀ q, q ∈ dRt v → q_inR q.1 6 ∧ q_inR q.2.1 (dT v) ∧ 1 ≤ q.2.2.1.toInt ∧ q.2.2.1.toInt ≤ 10000 ∧ q.2.2.2.toInt ≤ dT v ∧ q.2.1.toInt < q.2.2.2.toInt ∧ dSt v q.2.1.toNatClampNeg q.1.toNatClampNeg ≠ -1) ∧ (dRt v).Pairwise (fun x y => x.2.2.2.toInt ≤ y.2.2.2.toInt)
def IR (v : q_VT) (n : Nat) : Prop := v.1 ≤ 60 ∧ ∀ t, t < v.1 → q_inR (v.2 t 2) n ∧ (v.2 t 3 = 0 ∨ v.2 t 3 = 1)
def q_IN (v : q_VT) (n nr : Nat) (d : VD) : Prop := v.1 ≤ 80 ∧ ∀ t, t < v.1 → q_inR (v.2 t 1) n ∧ q_inR (v.2 t 2) n ∧ q_inR (v.2 t 3) nr ∧ q_inR (v.2 t 5) 6 ∧ ((v.2 t 6 >>> (v.2 t 1 &&& 31)) &&& 1 = 1) ∧ (v.2 t 0 = 1 → 0 < dT d ∧ dSt d (dT d - 1) (v.2 t 5).toNatClampNeg ≠ -1)
def Iv (s : q_St) (c : Nat) : Prop := IM (sM s) c ∧ q_IL (sG s) (vN (sM s)) (sT s).1 c ∧ IO' (sO s) (vN (sM s)) c ∧ IT (sT s) (vN (sM s)) (dT (sD s)) ∧ ID (sD s) (vN (sM s)) ∧ IR (sR s) (vN (sM s)) ∧ q_IN (q_sN s) (vN (sM s)) (sR s).1 (sD s) ∧ (sU s).length ≤ 30 ∧ (sP' s).1 ≤ 600
def cOK (μ : Mem) (b : Nat) (s' : q_St) (x y : Nat) (ν : Mem) : Prop := q_AC ν b s' ∧ K0 ν b ∧ WF ν ∧ q_Fr CS μ ν ∧ mX ν ≤ mX μ + x ∧ mS ν ≤ mS μ + y
def rOK (μ : Mem) (b : Nat) (s' : q_St) (th : Int32) (ν : Mem) : Prop := q_AR ν b s' ∧ Md RS μ ν ∧ mI ν 803 (b + 38) = th
theorem cOK.of {S Ls : List Nat} {x y x' y' b : Nat} {μ ν : Mem} {s' : q_St} (hK : K0 μ b) (h : q_AC ν b s') (hC : Cs S Ls x y b μ ν) (h1 : subL S CS = true) (h2 : disj STAT S = true) (hx : x ≤ x' := by omega) (hy : y ≤ y' := by omega) : cOK μ b s' x' y' ν := ⟨h, hK.fr hC.2.1 h2, hC.1, hC.2.1.wk h1, Nat.le_trans hC.2.2.2.1 (by omega), Nat.le_trans hC.2.2.2.2 (by omega)⟩
theorem cOK.rf {b x y : Nat} {μ : Mem} {s : q_St} (hK : K0 μ b) (hW : WF μ) (h : q_AC μ b s) : cOK μ b s x y μ := ⟨h, hK, hW, (q_Fr.rf μ).wk rfl, Nat.le_add_right _ _, Nat.le_add_right _ _⟩
theorem Md.cK {S : List Nat} {μ ν : Mem} {b : Nat} {s : q_St} (h : Md S μ ν) (hK : K0 μ b) (hW : WF μ) (hS : S.contains 834 = false) : ∀ o, o ∈ q_LO → q_lst ν (b + o) = q_lst μ (b + o) := fun o _ => by rw [(h.wf hW hS).2]
theorem q_AR.th {μ : Mem} {b : Nat} {s : q_St} (h : q_AR μ b s) (v : Int32) : q_AR (sI μ 803 (b + 38) v) b s := by
  obtain ⟨h1, h2, h3, h4, h5, h6, h7, h8, h9⟩ := h
  have f := q_Fr.sI μ 803 (b + 38) v
  exact ⟨h1.fr f rfl, h2.fr f rfl, h3.fr f rfl, h4.fr f rfl, h5.fr f rfl, h6.fr f rfl, h7.fr f rfl, h8.fr f rfl, h9.fr f rfl⟩
theorem rOK.th {μ : Mem} {b : Nat} {s : q_St} (hK : K0 μ b) (h : q_AR μ b s) (v : Int32) : rOK μ b s v (sI μ 803 (b + 38) v) := ⟨h.th v, (Md.sI (by rw [hK.k 38 13 (by decide)]; omega)).wk rfl, by rw [mI_sI']; simp⟩

theorem kk11 {μ : Mem} {b : Nat} (hK : K0 μ b) : mK μ b = 12 := hK.k 0 12 (by decide)
theorem xgI11 {μ : Mem} {b : Nat} {k : Nat} {Q : Int32 → Mem → Prop} (hK : K0 μ b) : q_wp (gI 11 k (some b)) μ Q ↔ Q (mI μ (64 * 11 + k) b) μ := by rw [wp_gI]; exact ⟨fun h => h.2, fun h => ⟨kk11 hK, h⟩⟩
theorem xgL11 {μ : Mem} {b : Nat} {k : Nat} {Q : Int64 → Mem → Prop} (hK : K0 μ b) : q_wp (gLg 11 k (some b)) μ Q ↔ Q (mL μ (64 * 11 + k) b) μ := by rw [wp_gL]; exact ⟨fun h => h.2, fun h => ⟨kk11 hK, h⟩⟩
theorem xwI11 {μ : Mem} {b : Nat} {k : Nat} {v : Int32} {Q : Unit → Mem → Prop} (hK : K0 μ b) : q_wp (wI 11 k (some b) v) μ Q ↔ Q () (sI μ (64 * 11 + k) b v) := by rw [wp_wI]; exact ⟨fun h => h.2, fun h => ⟨kk11 hK, h⟩⟩
theorem xpR11 {μ : Mem} {b : Nat} {Q : Nat → Mem → Prop} (hK : K0 μ b) : q_wp (pRc 11 (some b)) μ Q ↔ Q b μ := by rw [wp_pRc]; exact ⟨fun h => h.2, fun h => ⟨kk11 hK, h⟩⟩
theorem kk4 {μ : Mem} {b : Nat} (hK : K0 μ b) : mK μ (b + 1) = 5 := hK.k 1 5 (by decide)
theorem xgI4 {μ : Mem} {b : Nat} {k : Nat} {Q : Int32 → Mem → Prop} (hK : K0 μ b) : q_wp (gI 4 k (some (b + 1))) μ Q ↔ Q (mI μ (64 * 4 + k) (b + 1)) μ := by rw [wp_gI]; exact ⟨fun h => h.2, fun h => ⟨kk4 hK, h⟩⟩
theorem xgL4 {μ : Mem} {b : Nat} {k : Nat} {Q : Int64 → Mem → Prop} (hK : K0 μ b) : q_wp (gLg 4 k (some (b + 1))) μ Q ↔ Q (mL μ (64 * 4 + k) (b + 1)) μ := by rw [wp_gL]; exact ⟨fun h => h.2, fun h => ⟨kk4 hK, h⟩⟩
theorem xwI4 {μ : Mem} {b : Nat} {k : Nat} {v : Int32} {Q : Unit → Mem → Prop} (hK : K0 μ b) : q_wp (wI 4 k (some (b + 1)) v) μ Q ↔ Q () (sI μ (64 * 4 + k) (b + 1) v) := by rw [wp_wI]; exact ⟨fun h => h.2, fun h => ⟨kk4 hK, h⟩⟩
theorem xpR4 {μ : Mem} {b : Nat} {Q : Nat → Mem → Prop} (hK : K0 μ b) : q_wp (pRc 4 (some (b + 1))) μ Q ↔ Q (b + 1) μ := by rw [wp_pRc]; exact ⟨fun h => h.2, fun h => ⟨kk4 hK, h⟩⟩
theorem kk7 {μ : Mem} {b : Nat} (hK : K0 μ b) : mK μ (b + 4) = 8 := hK.k 4 8 (by decide)
theorem xgI7 {μ : Mem} {b : Nat} {k : Nat} {Q : Int32 → Mem → Prop} (hK : K0 μ b) : q_wp (gI 7 k (some (b + 4))) μ Q ↔ Q (mI μ (64 * 7 + k) (b + 4)) μ := by rw [wp_gI]; exact ⟨fun h => h.2, fun h => ⟨kk7 hK, h⟩⟩
theorem xgL7 {μ : Mem} {b : Nat} {k : Nat} {Q : Int64 → Mem → Prop} (hK : K0 μ b) : q_wp (gLg 7 k (some (b + 4))) μ Q ↔ Q (mL μ (64 * 7 + k) (b + 4)) μ := by rw [wp_gL]; exact ⟨fun h => h.2, fun h => ⟨kk7 hK, h⟩⟩
theorem xwI7 {μ : Mem} {b : Nat} {k : Nat} {v : Int32} {Q : Unit → Mem → Prop} (hK : K0 μ b) : q_wp (wI 7 k (some (b + 4)) v) μ Q ↔ Q () (sI μ (64 * 7 + k) (b + 4) v) := by rw [wp_wI]; exact ⟨fun h => h.2, fun h => ⟨kk7 hK, h⟩⟩
theorem xpR7 {μ : Mem} {b : Nat} {Q : Nat → Mem → Prop} (hK : K0 μ b) : q_wp (pRc 7 (some (b + 4))) μ Q ↔ Q (b + 4) μ := by rw [wp_pRc]; exact ⟨fun h => h.2, fun h => ⟨kk7 hK, h⟩⟩
theorem kk12 {μ : Mem} {b : Nat} (hK : K0 μ b) : mK μ (b + 38) = 13 := hK.k 38 13 (by decide)
theorem xgI12 {μ : Mem} {b : Nat} {k : Nat} {Q : Int32 → Mem → Prop} (hK : K0 μ b) : q_wp (gI 12 k (some (b + 38))) μ Q ↔ Q (mI μ (64 * 12 + k) (b + 38)) μ := by rw [wp_gI]; exact ⟨fun h => h.2, fun h => ⟨kk12 hK, h⟩⟩
theorem xgL12 {μ : Mem} {b : Nat} {k : Nat} {Q : Int64 → Mem → Prop} (hK : K0 μ b) : q_wp (gLg 12 k (some (b + 38))) μ Q ↔ Q (mL μ (64 * 12 + k) (b + 38)) μ := by rw [wp_gL]; exact ⟨fun h => h.2, fun h => ⟨kk12 hK, h⟩⟩
theorem xwI12 {μ : Mem} {b : Nat} {k : Nat} {v : Int32} {Q : Unit → Mem → Prop} (hK : K0 μ b) : q_wp (wI 12 k (some (b + 38)) v) μ Q ↔ Q () (sI μ (64 * 12 + k) (b + 38) v) := by rw [wp_wI]; exact ⟨fun h => h.2, fun h => ⟨kk12 hK, h⟩⟩
theorem xpR12 {μ : Mem} {b : Nat} {Q : Nat → Mem → Prop} (hK : K0 μ b) : q_wp (pRc 12 (some (b + 38))) μ Q ↔ Q (b + 38) μ := by rw [wp_pRc]; exact ⟨fun h => h.2, fun h => ⟨kk12 hK, h⟩⟩
theorem xgP11_0 {μ : Mem} {b : Nat} {Q : Option Nat → Mem → Prop} (hK : K0 μ b) : q_wp (gP 11 0 (some b)) μ Q ↔ Q (some (b + 1)) μ := by rw [wp_gP, show mP μ (64 * 11 + 0) b = some (b + 1) from hK.p 704 0 1 (by decide)]; exact ⟨fun h => h.2, fun h => ⟨kk11 hK, h⟩⟩
theorem xgP11_1 {μ : Mem} {b : Nat} {Q : Option Nat → Mem → Prop} (hK : K0 μ b) : q_wp (gP 11 1 (some b)) μ Q ↔ Q (some (b + 4)) μ := by rw [wp_gP, show mP μ (64 * 11 + 1) b = some (b + 4) from hK.p 705 0 4 (by decide)]; exact ⟨fun h => h.2, fun h => ⟨kk11 hK, h⟩⟩
theorem xgP11_2 {μ : Mem} {b : Nat} {Q : Option Nat → Mem → Prop} (hK : K0 μ b) : q_wp (gP 11 2 (some b)) μ Q ↔ Q (some (b + 8)) μ := by rw [wp_gP, show mP μ (64 * 11 + 2) b = some (b + 8) from hK.p 706 0 8 (by decide)]; exact ⟨fun h => h.2, fun h => ⟨kk11 hK, h⟩⟩
theorem xgP11_3 {μ : Mem} {b : Nat} {Q : Option Nat → Mem → Prop} (hK : K0 μ b) : q_wp (gP 11 3 (some b)) μ Q ↔ Q (some (b + 33)) μ := by rw [wp_gP, show mP μ (64 * 11 + 3) b = some (b + 33) from hK.p 707 0 33 (by decide)]; exact ⟨fun h => h.2, fun h => ⟨kk11 hK, h⟩⟩
theorem xgP11_4 {μ : Mem} {b : Nat} {Q : Option Nat → Mem → Prop} (hK : K0 μ b) : q_wp (gP 11 4 (some b)) μ Q ↔ Q (some (b + 34)) μ := by rw [wp_gP, show mP μ (64 * 11 + 4) b = some (b + 34) from hK.p 708 0 34 (by decide)]; exact ⟨fun h => h.2, fun h => ⟨kk11 hK, h⟩⟩
theorem xgP11_5 {μ : Mem} {b : Nat} {Q : Option Nat → Mem → Prop} (hK : K0 μ b) : q_wp (gP 11 5 (some b)) μ Q ↔ Q (some (b + 35)) μ := by rw [wp_gP, show mP μ (64 * 11 + 5) b = some (b + 35) from hK.p 709 0 35 (by decide)]; exact ⟨fun h => h.2, fun h => ⟨kk11 hK, h⟩⟩
theorem xgP11_6 {μ : Mem} {b : Nat} {Q : Option Nat → Mem → Prop} (hK : K0 μ b) : q_wp (gP 11 6 (some b)) μ Q ↔ Q (some (b + 36)) μ := by rw [wp_gP, show mP μ (64 * 11 + 6) b = some (b + 36) from hK.p 710 0 36 (by decide)]; exact ⟨fun h => h.2, fun h => ⟨kk11 hK, h⟩⟩
theorem xgP11_7 {μ : Mem} {b : Nat} {Q : Option Nat → Mem → Prop} (hK : K0 μ b) : q_wp (gP 11 7 (some b)) μ Q ↔ Q (some (b + 37)) μ := by rw [wp_gP, show mP μ (64 * 11 + 7) b = some (b + 37) from hK.p 711 0 37 (by decide)]; exact ⟨fun h => h.2, fun h => ⟨kk11 hK, h⟩⟩
theorem xgP4_0 {μ : Mem} {b : Nat} {Q : Option Nat → Mem → Prop} (hK : K0 μ b) : q_wp (gP 4 0 (some (b + 1))) μ Q ↔ Q (some (b + 2)) μ := by rw [wp_gP, show mP μ (64 * 4 + 0) (b + 1) = some (b + 2) from hK.p 256 1 2 (by decide)]; exact ⟨fun h => h.2, fun h => ⟨kk4 hK, h⟩⟩
theorem xl115 {μ : Mem} {b : Nat} {i : Int32} {Q : Int32 → Mem → Prop} (hK : K0 μ b) : q_wp (lI 115 (some (b + 2)) i) μ Q ↔ inA i 600 ∧ Q (aI μ 115 (b + 2) i.toNatClampNeg) μ := by rw [wp_lI, hK.n 2 600 (by decide)]; exact ⟨fun h => h.2, fun h => ⟨hK.k 2 115 (by decide), h⟩⟩
theorem xs115 {μ : Mem} {b : Nat} {i v : Int32} {Q : Unit → Mem → Prop} (hK : K0 μ b) : q_wp (stC 115 (some (b + 2)) i v) μ Q ↔ (inA i 600 ∧ vp_nar .char v = v) ∧ Q () (tI μ 115 (b + 2) i.toNatClampNeg v) := by rw [wp_stC, hK.n 2 600 (by decide)]; exact ⟨fun h => h.2, fun h => ⟨hK.k 2 115 (by decide), h⟩⟩
theorem xgP4_9 {μ : Mem} {b : Nat} {Q : Option Nat → Mem → Prop} (hK : K0 μ b) : q_wp (gP 4 9 (some (b + 1))) μ Q ↔ Q (some (b + 3)) μ := by rw [wp_gP, show mP μ (64 * 4 + 9) (b + 1) = some (b + 3) from hK.p 265 1 3 (by decide)]; exact ⟨fun h => h.2, fun h => ⟨kk4 hK, h⟩⟩
theorem xl120 {μ : Mem} {b : Nat} {i : Int32} {Q : Int32 → Mem → Prop} (hK : K0 μ b) : q_wp (lI 120 (some (b + 3)) i) μ Q ↔ inA i 60 ∧ Q (aI μ 120 (b + 3) i.toNatClampNeg) μ := by rw [wp_lI, hK.n 3 60 (by decide)]; exact ⟨fun h => h.2, fun h => ⟨hK.k 3 120 (by decide), h⟩⟩
theorem xs120 {μ : Mem} {b : Nat} {i v : Int32} {Q : Unit → Mem → Prop} (hK : K0 μ b) : q_wp (stI 120 (some (b + 3)) i v) μ Q ↔ inA i 60 ∧ Q () (tI μ 120 (b + 3) i.toNatClampNeg v) := by rw [wp_stI, hK.n 3 60 (by decide)]; exact ⟨fun h => h.2, fun h => ⟨hK.k 3 120 (by decide), h⟩⟩
theorem xgP7_0 {μ : Mem} {b : Nat} {Q : Option Nat → Mem → Prop} (hK : K0 μ b) : q_wp (gP 7 0 (some (b + 4))) μ Q ↔ Q (some (b + 5)) μ := by rw [wp_gP, show mP μ (64 * 7 + 0) (b + 4) = some (b + 5) from hK.p 448 4 5 (by decide)]; exact ⟨fun h => h.2, fun h => ⟨kk7 hK, h⟩⟩
theorem xgP7_1 {μ : Mem} {b : Nat} {Q : Option Nat → Mem → Prop} (hK : K0 μ b) : q_wp (gP 7 1 (some (b + 4))) μ Q ↔ Q (some (b + 6)) μ := by rw [wp_gP, show mP μ (64 * 7 + 1) (b + 4) = some (b + 6) from hK.p 449 4 6 (by decide)]; exact ⟨fun h => h.2, fun h => ⟨kk7 hK, h⟩⟩
theorem xl136 {μ : Mem} {b : Nat} {i : Int32} {Q : Int32 → Mem → Prop} (hK : K0 μ b) : q_wp (lI 136 (some (b + 6)) i) μ Q ↔ inA i 6 ∧ Q (aI μ 136 (b + 6) i.toNatClampNeg) μ := by rw [wp_lI, hK.n 6 6 (by decide)]; exact ⟨fun h => h.2, fun h => ⟨hK.k 6 136 (by decide), h⟩⟩
theorem xs136 {μ : Mem} {b : Nat} {i v : Int32} {Q : Unit → Mem → Prop} (hK : K0 μ b) : q_wp (stI 136 (some (b + 6)) i v) μ Q ↔ inA i 6 ∧ Q () (tI μ 136 (b + 6) i.toNatClampNeg v) := by rw [wp_stI, hK.n 6 6 (by decide)]; exact ⟨fun h => h.2, fun h => ⟨hK.k 6 136 (by decide), h⟩⟩
theorem xgP7_2 {μ : Mem} {b : Nat} {Q : Option Nat → Mem → Prop} (hK : K0 μ b) : q_wp (gP 7 2 (some (b + 4))) μ Q ↔ Q (some (b + 7)) μ := by rw [wp_gP, show mP μ (64 * 7 + 2) (b + 4) = some (b + 7) from hK.p 450 4 7 (by decide)]; exact ⟨fun h => h.2, fun h => ⟨kk7 hK, h⟩⟩
theorem xl144 {μ : Mem} {b : Nat} {i : Int32} {Q : Int32 → Mem → Prop} (hK : K0 μ b) : q_wp (lI 144 (some (b + 7)) i) μ Q ↔ inA i 60 ∧ Q (aI μ 144 (b + 7) i.toNatClampNeg) μ := by rw [wp_lI, hK.n 7 60 (by decide)]; exact ⟨fun h => h.2, fun h => ⟨hK.k 7 144 (by decide), h⟩⟩
theorem xs144 {μ : Mem} {b : Nat} {i v : Int32} {Q : Unit → Mem → Prop} (hK : K0 μ b) : q_wp (stI 144 (some (b + 7)) i v) μ Q ↔ inA i 60 ∧ Q () (tI μ 144 (b + 7) i.toNatClampNeg v) := by rw [wp_stI, hK.n 7 60 (by decide)]; exact ⟨fun h => h.2, fun h => ⟨hK.k 7 144 (by decide), h⟩⟩
theorem xgP12_0 {μ : Mem} {b : Nat} {Q : Option Nat → Mem → Prop} (hK : K0 μ b) : q_wp (gP 12 0 (some (b + 38))) μ Q ↔ Q (some (b + 39)) μ := by rw [wp_gP, show mP μ (64 * 12 + 0) (b + 38) = some (b + 39) from hK.p 768 38 39 (by decide)]; exact ⟨fun h => h.2, fun h => ⟨kk12 hK, h⟩⟩
theorem xl160 {μ : Mem} {b : Nat} {i : Int32} {Q : Int32 → Mem → Prop} (hK : K0 μ b) : q_wp (lI 160 (some (b + 39)) i) μ Q ↔ inA i 600 ∧ Q (aI μ 160 (b + 39) i.toNatClampNeg) μ := by rw [wp_lI, hK.n 39 600 (by decide)]; exact ⟨fun h => h.2, fun h => ⟨hK.k 39 160 (by decide), h⟩⟩
theorem xs160 {μ : Mem} {b : Nat} {i v : Int32} {Q : Unit → Mem → Prop} (hK : K0 μ b) : q_wp (stI 160 (some (b + 39)) i v) μ Q ↔ inA i 600 ∧ Q () (tI μ 160 (b + 39) i.toNatClampNeg v) := by rw [wp_stI, hK.n 39 600 (by decide)]; exact ⟨fun h => h.2, fun h => ⟨hK.k 39 160 (by decide), h⟩⟩
theorem xgP12_4 {μ : Mem} {b : Nat} {Q : Option Nat → Mem → Prop} (hK : K0 μ b) : q_wp (gP 12 4 (some (b + 38))) μ Q ↔ Q (some (b + 40)) μ := by rw [wp_gP, show mP μ (64 * 12 + 4) (b + 38) = some (b + 40) from hK.p 772 38 40 (by decide)]; exact ⟨fun h => h.2, fun h => ⟨kk12 hK, h⟩⟩
theorem xl168 {μ : Mem} {b : Nat} {i : Int32} {Q : Int32 → Mem → Prop} (hK : K0 μ b) : q_wp (lI 168 (some (b + 40)) i) μ Q ↔ inA i 30 ∧ Q (aI μ 168 (b + 40) i.toNatClampNeg) μ := by rw [wp_lI, hK.n 40 30 (by decide)]; exact ⟨fun h => h.2, fun h => ⟨hK.k 40 168 (by decide), h⟩⟩
theorem xs168 {μ : Mem} {b : Nat} {i v : Int32} {Q : Unit → Mem → Prop} (hK : K0 μ b) : q_wp (stI 168 (some (b + 40)) i v) μ Q ↔ inA i 30 ∧ Q () (tI μ 168 (b + 40) i.toNatClampNeg v) := by rw [wp_stI, hK.n 40 30 (by decide)]; exact ⟨fun h => h.2, fun h => ⟨hK.k 40 168 (by decide), h⟩⟩
theorem xgP12_5 {μ : Mem} {b : Nat} {Q : Option Nat → Mem → Prop} (hK : K0 μ b) : q_wp (gP 12 5 (some (b + 38))) μ Q ↔ Q (some (b + 41)) μ := by rw [wp_gP, show mP μ (64 * 12 + 5) (b + 38) = some (b + 41) from hK.p 773 38 41 (by decide)]; exact ⟨fun h => h.2, fun h => ⟨kk12 hK, h⟩⟩
theorem xl176 {μ : Mem} {b : Nat} {i : Int32} {Q : Int32 → Mem → Prop} (hK : K0 μ b) : q_wp (lI 176 (some (b + 41)) i) μ Q ↔ inA i 30 ∧ Q (aI μ 176 (b + 41) i.toNatClampNeg) μ := by rw [wp_lI, hK.n 41 30 (by decide)]; exact ⟨fun h => h.2, fun h => ⟨hK.k 41 176 (by decide), h⟩⟩
theorem xs176 {μ : Mem} {b : Nat} {i v : Int32} {Q : Unit → Mem → Prop} (hK : K0 μ b) : q_wp (stI 176 (some (b + 41)) i v) μ Q ↔ inA i 30 ∧ Q () (tI μ 176 (b + 41) i.toNatClampNeg v) := by rw [wp_stI, hK.n 41 30 (by decide)]; exact ⟨fun h => h.2, fun h => ⟨hK.k 41 176 (by decide), h⟩⟩
theorem xgP12_6 {μ : Mem} {b : Nat} {Q : Option Nat → Mem → Prop} (hK : K0 μ b) : q_wp (gP 12 6 (some (b + 38))) μ Q ↔ Q (some (b + 42)) μ := by rw [wp_gP, show mP μ (64 * 12 + 6) (b + 38) = some (b + 42) from hK.p 774 38 42 (by decide)]; exact ⟨fun h => h.2, fun h => ⟨kk12 hK, h⟩⟩
theorem xl184 {μ : Mem} {b : Nat} {i : Int32} {Q : Int32 → Mem → Prop} (hK : K0 μ b) : q_wp (lI 184 (some (b + 42)) i) μ Q ↔ inA i 30 ∧ Q (aI μ 184 (b + 42) i.toNatClampNeg) μ := by rw [wp_lI, hK.n 42 30 (by decide)]; exact ⟨fun h => h.2, fun h => ⟨hK.k 42 184 (by decide), h⟩⟩
theorem xs184 {μ : Mem} {b : Nat} {i v : Int32} {Q : Unit → Mem → Prop} (hK : K0 μ b) : q_wp (stI 184 (some (b + 42)) i v) μ Q ↔ inA i 30 ∧ Q () (tI μ 184 (b + 42) i.toNatClampNeg v) := by rw [wp_stI, hK.n 42 30 (by decide)]; exact ⟨fun h => h.2, fun h => ⟨hK.k 42 184 (by decide), h⟩⟩
theorem xgP12_7 {μ : Mem} {b : Nat} {Q : Option Nat → Mem → Prop} (hK : K0 μ b) : q_wp (gP 12 7 (some (b + 38))) μ Q ↔ Q (some (b + 43)) μ := by rw [wp_gP, show mP μ (64 * 12 + 7) (b + 38) = some (b + 43) from hK.p 775 38 43 (by decide)]; exact ⟨fun h => h.2, fun h => ⟨kk12 hK, h⟩⟩
theorem xl192 {μ : Mem} {b : Nat} {i : Int32} {Q : Int32 → Mem → Prop} (hK : K0 μ b) : q_wp (lI 192 (some (b + 43)) i) μ Q ↔ inA i 1800 ∧ Q (aI μ 192 (b + 43) i.toNatClampNeg) μ := by rw [wp_lI, hK.n 43 1800 (by decide)]; exact ⟨fun h => h.2, fun h => ⟨hK.k 43 192 (by decide), h⟩⟩
theorem xs192 {μ : Mem} {b : Nat} {i v : Int32} {Q : Unit → Mem → Prop} (hK : K0 μ b) : q_wp (stI 192 (some (b + 43)) i v) μ Q ↔ inA i 1800 ∧ Q () (tI μ 192 (b + 43) i.toNatClampNeg v) := by rw [wp_stI, hK.n 43 1800 (by decide)]; exact ⟨fun h => h.2, fun h => ⟨hK.k 43 192 (by decide), h⟩⟩
theorem xgP12_8 {μ : Mem} {b : Nat} {Q : Option Nat → Mem → Prop} (hK : K0 μ b) : q_wp (gP 12 8 (some (b + 38))) μ Q ↔ Q (some (b + 44)) μ := by rw [wp_gP, show mP μ (64 * 12 + 8) (b + 38) = some (b + 44) from hK.p 776 38 44 (by decide)]; exact ⟨fun h => h.2, fun h => ⟨kk12 hK, h⟩⟩
theorem xl200 {μ : Mem} {b : Nat} {i : Int32} {Q : Int32 → Mem → Prop} (hK : K0 μ b) : q_wp (lI 200 (some (b + 44)) i) μ Q ↔ inA i 1800 ∧ Q (aI μ 200 (b + 44) i.toNatClampNeg) μ := by rw [wp_lI, hK.n 44 1800 (by decide)]; exact ⟨fun h => h.2, fun h => ⟨hK.k 44 200 (by decide), h⟩⟩
theorem xs200 {μ : Mem} {b : Nat} {i v : Int32} {Q : Unit → Mem → Prop} (hK : K0 μ b) : q_wp (stI 200 (some (b + 44)) i v) μ Q ↔ inA i 1800 ∧ Q () (tI μ 200 (b + 44) i.toNatClampNeg v) := by rw [wp_stI, hK.n 44 1800 (by decide)]; exact ⟨fun h => h.2, fun h => ⟨hK.k 44 200 (by decide), h⟩⟩
theorem xgP12_11 {μ : Mem} {b : Nat} {Q : Option Nat → Mem → Prop} (hK : K0 μ b) : q_wp (gP 12 11 (some (b + 38))) μ Q ↔ Q (some (b + 45)) μ := by rw [wp_gP, show mP μ (64 * 12 + 11) (b + 38) = some (b + 45) from hK.p 779 38 45 (by decide)]; exact ⟨fun h => h.2, fun h => ⟨kk12 hK, h⟩⟩
theorem xl209 {μ : Mem} {b : Nat} {i : Int32} {Q : Int64 → Mem → Prop} (hK : K0 μ b) : q_wp (lL 209 (some (b + 45)) i) μ Q ↔ inA i 12 ∧ Q (aL μ 209 (b + 45) i.toNatClampNeg) μ := by rw [wp_lL, hK.n 45 12 (by decide)]; exact ⟨fun h => h.2, fun h => ⟨hK.k 45 209 (by decide), h⟩⟩
theorem xs209 {μ : Mem} {b : Nat} {i : Int32} {v : Int64} {Q : Unit → Mem → Prop} (hK : K0 μ b) : q_wp (stL 209 (some (b + 45)) i v) μ Q ↔ inA i 12 ∧ Q () (tL μ 209 (b + 45) i.toNatClampNeg v) := by rw [wp_stL, hK.n 45 12 (by decide)]; exact ⟨fun h => h.2, fun h => ⟨hK.k 45 209 (by decide), h⟩⟩
theorem xgP12_12 {μ : Mem} {b : Nat} {Q : Option Nat → Mem → Prop} (hK : K0 μ b) : q_wp (gP 12 12 (some (b + 38))) μ Q ↔ Q (some (b + 46)) μ := by rw [wp_gP, show mP μ (64 * 12 + 12) (b + 38) = some (b + 46) from hK.p 780 38 46 (by decide)]; exact ⟨fun h => h.2, fun h => ⟨kk12 hK, h⟩⟩
theorem xl218 {μ : Mem} {b : Nat} {i : Int32} {Q : Int32 → Mem → Prop} (hK : K0 μ b) : q_wp (lI 218 (some (b + 46)) i) μ Q ↔ inA i 12 ∧ Q (aI μ 218 (b + 46) i.toNatClampNeg) μ := by rw [wp_lI, hK.n 46 12 (by decide)]; exact ⟨fun h => h.2, fun h => ⟨hK.k 46 218 (by decide), h⟩⟩
theorem xs218 {μ : Mem} {b : Nat} {i v : Int32} {Q : Unit → Mem → Prop} (hK : K0 μ b) : q_wp (stZ 218 (some (b + 46)) i v) μ Q ↔ (inA i 12 ∧ vp_nar .boolean v = v) ∧ Q () (tI μ 218 (b + 46) i.toNatClampNeg v) := by rw [wp_stZ, hK.n 46 12 (by decide)]; exact ⟨fun h => h.2, fun h => ⟨hK.k 46 218 (by decide), h⟩⟩
theorem xgP12_13 {μ : Mem} {b : Nat} {Q : Option Nat → Mem → Prop} (hK : K0 μ b) : q_wp (gP 12 13 (some (b + 38))) μ Q ↔ Q (some (b + 47)) μ := by rw [wp_gP, show mP μ (64 * 12 + 13) (b + 38) = some (b + 47) from hK.p 781 38 47 (by decide)]; exact ⟨fun h => h.2, fun h => ⟨kk12 hK, h⟩⟩
theorem xl226 {μ : Mem} {b : Nat} {i : Int32} {Q : Int32 → Mem → Prop} (hK : K0 μ b) : q_wp (lI 226 (some (b + 47)) i) μ Q ↔ inA i 12 ∧ Q (aI μ 226 (b + 47) i.toNatClampNeg) μ := by rw [wp_lI, hK.n 47 12 (by decide)]; exact ⟨fun h => h.2, fun h => ⟨hK.k 47 226 (by decide), h⟩⟩
theorem xs226 {μ : Mem} {b : Nat} {i v : Int32} {Q : Unit → Mem → Prop} (hK : K0 μ b) : q_wp (stZ 226 (some (b + 47)) i v) μ Q ↔ (inA i 12 ∧ vp_nar .boolean v = v) ∧ Q () (tI μ 226 (b + 47) i.toNatClampNeg v) := by rw [wp_stZ, hK.n 47 12 (by decide)]; exact ⟨fun h => h.2, fun h => ⟨hK.k 47 226 (by decide), h⟩⟩
theorem xgP12_14 {μ : Mem} {b : Nat} {Q : Option Nat → Mem → Prop} (hK : K0 μ b) : q_wp (gP 12 14 (some (b + 38))) μ Q ↔ Q (some (b + 48)) μ := by rw [wp_gP, show mP μ (64 * 12 + 14) (b + 38) = some (b + 48) from hK.p 782 38 48 (by decide)]; exact ⟨fun h => h.2, fun h => ⟨kk12 hK, h⟩⟩
theorem xl232 {μ : Mem} {b : Nat} {i : Int32} {Q : Int32 → Mem → Prop} (hK : K0 μ b) : q_wp (lI 232 (some (b + 48)) i) μ Q ↔ inA i 72 ∧ Q (aI μ 232 (b + 48) i.toNatClampNeg) μ := by rw [wp_lI, hK.n 48 72 (by decide)]; exact ⟨fun h => h.2, fun h => ⟨hK.k 48 232 (by decide), h⟩⟩
theorem xs232 {μ : Mem} {b : Nat} {i v : Int32} {Q : Unit → Mem → Prop} (hK : K0 μ b) : q_wp (stI 232 (some (b + 48)) i v) μ Q ↔ inA i 72 ∧ Q () (tI μ 232 (b + 48) i.toNatClampNeg v) := by rw [wp_stI, hK.n 48 72 (by decide)]; exact ⟨fun h => h.2, fun h => ⟨hK.k 48 232 (by decide), h⟩⟩
theorem xgP12_15 {μ : Mem} {b : Nat} {Q : Option Nat → Mem → Prop} (hK : K0 μ b) : q_wp (gP 12 15 (some (b + 38))) μ Q ↔ Q (some (b + 49)) μ := by rw [wp_gP, show mP μ (64 * 12 + 15) (b + 38) = some (b + 49) from hK.p 783 38 49 (by decide)]; exact ⟨fun h => h.2, fun h => ⟨kk12 hK, h⟩⟩
theorem xl241 {μ : Mem} {b : Nat} {i : Int32} {Q : Int64 → Mem → Prop} (hK : K0 μ b) : q_wp (lL 241 (some (b + 49)) i) μ Q ↔ inA i 72 ∧ Q (aL μ 241 (b + 49) i.toNatClampNeg) μ := by rw [wp_lL, hK.n 49 72 (by decide)]; exact ⟨fun h => h.2, fun h => ⟨hK.k 49 241 (by decide), h⟩⟩
theorem xs241 {μ : Mem} {b : Nat} {i : Int32} {v : Int64} {Q : Unit → Mem → Prop} (hK : K0 μ b) : q_wp (stL 241 (some (b + 49)) i v) μ Q ↔ inA i 72 ∧ Q () (tL μ 241 (b + 49) i.toNatClampNeg v) := by rw [wp_stL, hK.n 49 72 (by decide)]; exact ⟨fun h => h.2, fun h => ⟨hK.k 49 241 (by decide), h⟩⟩
theorem xgP12_16 {μ : Mem} {b : Nat} {Q : Option Nat → Mem → Prop} (hK : K0 μ b) : q_wp (gP 12 16 (some (b + 38))) μ Q ↔ Q (some (b + 50)) μ := by rw [wp_gP, show mP μ (64 * 12 + 16) (b + 38) = some (b + 50) from hK.p 784 38 50 (by decide)]; exact ⟨fun h => h.2, fun h => ⟨kk12 hK, h⟩⟩
theorem xl248 {μ : Mem} {b : Nat} {i : Int32} {Q : Int32 → Mem → Prop} (hK : K0 μ b) : q_wp (lI 248 (some (b + 50)) i) μ Q ↔ inA i 9600 ∧ Q (aI μ 248 (b + 50) i.toNatClampNeg) μ := by rw [wp_lI, hK.n 50 9600 (by decide)]; exact ⟨fun h => h.2, fun h => ⟨hK.k 50 248 (by decide), h⟩⟩
theorem xs248 {μ : Mem} {b : Nat} {i v : Int32} {Q : Unit → Mem → Prop} (hK : K0 μ b) : q_wp (stI 248 (some (b + 50)) i v) μ Q ↔ inA i 9600 ∧ Q () (tI μ 248 (b + 50) i.toNatClampNeg v) := by rw [wp_stI, hK.n 50 9600 (by decide)]; exact ⟨fun h => h.2, fun h => ⟨hK.k 50 248 (by decide), h⟩⟩
theorem xgP12_17 {μ : Mem} {b : Nat} {Q : Option Nat → Mem → Prop} (hK : K0 μ b) : q_wp (gP 12 17 (some (b + 38))) μ Q ↔ Q (some (b + 51)) μ := by rw [wp_gP, show mP μ (64 * 12 + 17) (b + 38) = some (b + 51) from hK.p 785 38 51 (by decide)]; exact ⟨fun h => h.2, fun h => ⟨kk12 hK, h⟩⟩
theorem xl256 {μ : Mem} {b : Nat} {i : Int32} {Q : Int32 → Mem → Prop} (hK : K0 μ b) : q_wp (lI 256 (some (b + 51)) i) μ Q ↔ inA i 9600 ∧ Q (aI μ 256 (b + 51) i.toNatClampNeg) μ := by rw [wp_lI, hK.n 51 9600 (by decide)]; exact ⟨fun h => h.2, fun h => ⟨hK.k 51 256 (by decide), h⟩⟩
theorem xs256 {μ : Mem} {b : Nat} {i v : Int32} {Q : Unit → Mem → Prop} (hK : K0 μ b) : q_wp (stI 256 (some (b + 51)) i v) μ Q ↔ inA i 9600 ∧ Q () (tI μ 256 (b + 51) i.toNatClampNeg v) := by rw [wp_stI, hK.n 51 9600 (by decide)]; exact ⟨fun h => h.2, fun h => ⟨hK.k 51 256 (by decide), h⟩⟩
theorem xgP12_18 {μ : Mem} {b : Nat} {Q : Option Nat → Mem → Prop} (hK : K0 μ b) : q_wp (gP 12 18 (some (b + 38))) μ Q ↔ Q (some (b + 52)) μ := by rw [wp_gP, show mP μ (64 * 12 + 18) (b + 38) = some (b + 52) from hK.p 786 38 52 (by decide)]; exact ⟨fun h => h.2, fun h => ⟨kk12 hK, h⟩⟩
theorem xl264 {μ : Mem} {b : Nat} {i : Int32} {Q : Int32 → Mem → Prop} (hK : K0 μ b) : q_wp (lI 264 (some (b + 52)) i) μ Q ↔ inA i 6 ∧ Q (aI μ 264 (b + 52) i.toNatClampNeg) μ := by rw [wp_lI, hK.n 52 6 (by decide)]; exact ⟨fun h => h.2, fun h => ⟨hK.k 52 264 (by decide), h⟩⟩
theorem xs264 {μ : Mem} {b : Nat} {i v : Int32} {Q : Unit → Mem → Prop} (hK : K0 μ b) : q_wp (stI 264 (some (b + 52)) i v) μ Q ↔ inA i 6 ∧ Q () (tI μ 264 (b + 52) i.toNatClampNeg v) := by rw [wp_stI, hK.n 52 6 (by decide)]; exact ⟨fun h => h.2, fun h => ⟨hK.k 52 264 (by decide), h⟩⟩
theorem xgP12_19 {μ : Mem} {b : Nat} {Q : Option Nat → Mem → Prop} (hK : K0 μ b) : q_wp (gP 12 19 (some (b + 38))) μ Q ↔ Q (some (b + 53)) μ := by rw [wp_gP, show mP μ (64 * 12 + 19) (b + 38) = some (b + 53) from hK.p 787 38 53 (by decide)]; exact ⟨fun h => h.2, fun h => ⟨kk12 hK, h⟩⟩
theorem xl274 {μ : Mem} {b : Nat} {i : Int32} {Q : Int32 → Mem → Prop} (hK : K0 μ b) : q_wp (lI 274 (some (b + 53)) i) μ Q ↔ inA i 6 ∧ Q (aI μ 274 (b + 53) i.toNatClampNeg) μ := by rw [wp_lI, hK.n 53 6 (by decide)]; exact ⟨fun h => h.2, fun h => ⟨hK.k 53 274 (by decide), h⟩⟩
theorem xs274 {μ : Mem} {b : Nat} {i v : Int32} {Q : Unit → Mem → Prop} (hK : K0 μ b) : q_wp (stZ 274 (some (b + 53)) i v) μ Q ↔ (inA i 6 ∧ vp_nar .boolean v = v) ∧ Q () (tI μ 274 (b + 53) i.toNatClampNeg v) := by rw [wp_stZ, hK.n 53 6 (by decide)]; exact ⟨fun h => h.2, fun h => ⟨hK.k 53 274 (by decide), h⟩⟩
theorem xgP12_20 {μ : Mem} {b : Nat} {Q : Option Nat → Mem → Prop} (hK : K0 μ b) : q_wp (gP 12 20 (some (b + 38))) μ Q ↔ Q (some (b + 54)) μ := by rw [wp_gP, show mP μ (64 * 12 + 20) (b + 38) = some (b + 54) from hK.p 788 38 54 (by decide)]; exact ⟨fun h => h.2, fun h => ⟨kk12 hK, h⟩⟩
theorem xl280 {μ : Mem} {b : Nat} {i : Int32} {Q : Int32 → Mem → Prop} (hK : K0 μ b) : q_wp (lI 280 (some (b + 54)) i) μ Q ↔ inA i 600 ∧ Q (aI μ 280 (b + 54) i.toNatClampNeg) μ := by rw [wp_lI, hK.n 54 600 (by decide)]; exact ⟨fun h => h.2, fun h => ⟨hK.k 54 280 (by decide), h⟩⟩
theorem xs280 {μ : Mem} {b : Nat} {i v : Int32} {Q : Unit → Mem → Prop} (hK : K0 μ b) : q_wp (stI 280 (some (b + 54)) i v) μ Q ↔ inA i 600 ∧ Q () (tI μ 280 (b + 54) i.toNatClampNeg v) := by rw [wp_stI, hK.n 54 600 (by decide)]; exact ⟨fun h => h.2, fun h => ⟨hK.k 54 280 (by decide), h⟩⟩
theorem xgP12_22 {μ : Mem} {b : Nat} {Q : Option Nat → Mem → Prop} (hK : K0 μ b) : q_wp (gP 12 22 (some (b + 38))) μ Q ↔ Q (some (b + 55)) μ := by rw [wp_gP, show mP μ (64 * 12 + 22) (b + 38) = some (b + 55) from hK.p 790 38 55 (by decide)]; exact ⟨fun h => h.2, fun h => ⟨kk12 hK, h⟩⟩
theorem xl288 {μ : Mem} {b : Nat} {i : Int32} {Q : Int32 → Mem → Prop} (hK : K0 μ b) : q_wp (lI 288 (some (b + 55)) i) μ Q ↔ inA i 4900 ∧ Q (aI μ 288 (b + 55) i.toNatClampNeg) μ := by rw [wp_lI, hK.n 55 4900 (by decide)]; exact ⟨fun h => h.2, fun h => ⟨hK.k 55 288 (by decide), h⟩⟩
theorem xs288 {μ : Mem} {b : Nat} {i v : Int32} {Q : Unit → Mem → Prop} (hK : K0 μ b) : q_wp (stI 288 (some (b + 55)) i v) μ Q ↔ inA i 4900 ∧ Q () (tI μ 288 (b + 55) i.toNatClampNeg v) := by rw [wp_stI, hK.n 55 4900 (by decide)]; exact ⟨fun h => h.2, fun h => ⟨hK.k 55 288 (by decide), h⟩⟩
theorem xgP12_25 {μ : Mem} {b : Nat} {Q : Option Nat → Mem → Prop} (hK : K0 μ b) : q_wp (gP 12 25 (some (b + 38))) μ Q ↔ Q (some (b + 56)) μ := by rw [wp_gP, show mP μ (64 * 12 + 25) (b + 38) = some (b + 56) from hK.p 793 38 56 (by decide)]; exact ⟨fun h => h.2, fun h => ⟨kk12 hK, h⟩⟩
theorem xl296 {μ : Mem} {b : Nat} {i : Int32} {Q : Int32 → Mem → Prop} (hK : K0 μ b) : q_wp (lI 296 (some (b + 56)) i) μ Q ↔ inA i 906 ∧ Q (aI μ 296 (b + 56) i.toNatClampNeg) μ := by rw [wp_lI, hK.n 56 906 (by decide)]; exact ⟨fun h => h.2, fun h => ⟨hK.k 56 296 (by decide), h⟩⟩
theorem xs296 {μ : Mem} {b : Nat} {i v : Int32} {Q : Unit → Mem → Prop} (hK : K0 μ b) : q_wp (stI 296 (some (b + 56)) i v) μ Q ↔ inA i 906 ∧ Q () (tI μ 296 (b + 56) i.toNatClampNeg v) := by rw [wp_stI, hK.n 56 906 (by decide)]; exact ⟨fun h => h.2, fun h => ⟨hK.k 56 296 (by decide), h⟩⟩
theorem xgP12_26 {μ : Mem} {b : Nat} {Q : Option Nat → Mem → Prop} (hK : K0 μ b) : q_wp (gP 12 26 (some (b + 38))) μ Q ↔ Q (some (b + 57)) μ := by rw [wp_gP, show mP μ (64 * 12 + 26) (b + 38) = some (b + 57) from hK.p 794 38 57 (by decide)]; exact ⟨fun h => h.2, fun h => ⟨kk12 hK, h⟩⟩
theorem xl305 {μ : Mem} {b : Nat} {i : Int32} {Q : Int64 → Mem → Prop} (hK : K0 μ b) : q_wp (lL 305 (some (b + 57)) i) μ Q ↔ inA i 1812 ∧ Q (aL μ 305 (b + 57) i.toNatClampNeg) μ := by rw [wp_lL, hK.n 57 1812 (by decide)]; exact ⟨fun h => h.2, fun h => ⟨hK.k 57 305 (by decide), h⟩⟩
theorem xs305 {μ : Mem} {b : Nat} {i : Int32} {v : Int64} {Q : Unit → Mem → Prop} (hK : K0 μ b) : q_wp (stL 305 (some (b + 57)) i v) μ Q ↔ inA i 1812 ∧ Q () (tL μ 305 (b + 57) i.toNatClampNeg v) := by rw [wp_stL, hK.n 57 1812 (by decide)]; exact ⟨fun h => h.2, fun h => ⟨hK.k 57 305 (by decide), h⟩⟩
theorem xgP12_27 {μ : Mem} {b : Nat} {Q : Option Nat → Mem → Prop} (hK : K0 μ b) : q_wp (gP 12 27 (some (b + 38))) μ Q ↔ Q (some (b + 58)) μ := by rw [wp_gP, show mP μ (64 * 12 + 27) (b + 38) = some (b + 58) from hK.p 795 38 58 (by decide)]; exact ⟨fun h => h.2, fun h => ⟨kk12 hK, h⟩⟩
theorem xl312 {μ : Mem} {b : Nat} {i : Int32} {Q : Int32 → Mem → Prop} (hK : K0 μ b) : q_wp (lI 312 (some (b + 58)) i) μ Q ↔ inA i 10872 ∧ Q (aI μ 312 (b + 58) i.toNatClampNeg) μ := by rw [wp_lI, hK.n 58 10872 (by decide)]; exact ⟨fun h => h.2, fun h => ⟨hK.k 58 312 (by decide), h⟩⟩
theorem xs312 {μ : Mem} {b : Nat} {i v : Int32} {Q : Unit → Mem → Prop} (hK : K0 μ b) : q_wp (stI 312 (some (b + 58)) i v) μ Q ↔ inA i 10872 ∧ Q () (tI μ 312 (b + 58) i.toNatClampNeg v) := by rw [wp_stI, hK.n 58 10872 (by decide)]; exact ⟨fun h => h.2, fun h => ⟨hK.k 58 312 (by decide), h⟩⟩
theorem xgP12_28 {μ : Mem} {b : Nat} {Q : Option Nat → Mem → Prop} (hK : K0 μ b) : q_wp (gP 12 28 (some (b + 38))) μ Q ↔ Q (some (b + 59)) μ := by rw [wp_gP, show mP μ (64 * 12 + 28) (b + 38) = some (b + 59) from hK.p 796 38 59 (by decide)]; exact ⟨fun h => h.2, fun h => ⟨kk12 hK, h⟩⟩
theorem xl321 {μ : Mem} {b : Nat} {i : Int32} {Q : Int64 → Mem → Prop} (hK : K0 μ b) : q_wp (lL 321 (some (b + 59)) i) μ Q ↔ inA i 10872 ∧ Q (aL μ 321 (b + 59) i.toNatClampNeg) μ := by rw [wp_lL, hK.n 59 10872 (by decide)]; exact ⟨fun h => h.2, fun h => ⟨hK.k 59 321 (by decide), h⟩⟩
theorem xs321 {μ : Mem} {b : Nat} {i : Int32} {v : Int64} {Q : Unit → Mem → Prop} (hK : K0 μ b) : q_wp (stL 321 (some (b + 59)) i v) μ Q ↔ inA i 10872 ∧ Q () (tL μ 321 (b + 59) i.toNatClampNeg v) := by rw [wp_stL, hK.n 59 10872 (by decide)]; exact ⟨fun h => h.2, fun h => ⟨hK.k 59 321 (by decide), h⟩⟩
theorem xgP12_29 {μ : Mem} {b : Nat} {Q : Option Nat → Mem → Prop} (hK : K0 μ b) : q_wp (gP 12 29 (some (b + 38))) μ Q ↔ Q (some (b + 60)) μ := by rw [wp_gP, show mP μ (64 * 12 + 29) (b + 38) = some (b + 60) from hK.p 797 38 60 (by decide)]; exact ⟨fun h => h.2, fun h => ⟨kk12 hK, h⟩⟩
theorem xl328 {μ : Mem} {b : Nat} {i : Int32} {Q : Int32 → Mem → Prop} (hK : K0 μ b) : q_wp (lI 328 (some (b + 60)) i) μ Q ↔ inA i 400 ∧ Q (aI μ 328 (b + 60) i.toNatClampNeg) μ := by rw [wp_lI, hK.n 60 400 (by decide)]; exact ⟨fun h => h.2, fun h => ⟨hK.k 60 328 (by decide), h⟩⟩
theorem xs328 {μ : Mem} {b : Nat} {i v : Int32} {Q : Unit → Mem → Prop} (hK : K0 μ b) : q_wp (stI 328 (some (b + 60)) i v) μ Q ↔ inA i 400 ∧ Q () (tI μ 328 (b + 60) i.toNatClampNeg v) := by rw [wp_stI, hK.n 60 400 (by decide)]; exact ⟨fun h => h.2, fun h => ⟨hK.k 60 328 (by decide), h⟩⟩
theorem xgP12_31 {μ : Mem} {b : Nat} {Q : Option Nat → Mem → Prop} (hK : K0 μ b) : q_wp (gP 12 31 (some (b + 38))) μ Q ↔ Q (some (b + 61)) μ := by rw [wp_gP, show mP μ (64 * 12 + 31) (b + 38) = some (b + 61) from hK.p 799 38 61 (by decide)]; exact ⟨fun h => h.2, fun h => ⟨kk12 hK, h⟩⟩
theorem xl336 {μ : Mem} {b : Nat} {i : Int32} {Q : Int32 → Mem → Prop} (hK : K0 μ b) : q_wp (lI 336 (some (b + 61)) i) μ Q ↔ inA i 240 ∧ Q (aI μ 336 (b + 61) i.toNatClampNeg) μ := by rw [wp_lI, hK.n 61 240 (by decide)]; exact ⟨fun h => h.2, fun h => ⟨hK.k 61 336 (by decide), h⟩⟩
theorem xs336 {μ : Mem} {b : Nat} {i v : Int32} {Q : Unit → Mem → Prop} (hK : K0 μ b) : q_wp (stI 336 (some (b + 61)) i v) μ Q ↔ inA i 240 ∧ Q () (tI μ 336 (b + 61) i.toNatClampNeg v) := by rw [wp_stI, hK.n 61 240 (by decide)]; exact ⟨fun h => h.2, fun h => ⟨hK.k 61 336 (by decide), h⟩⟩
theorem xgP12_33 {μ : Mem} {b : Nat} {Q : Option Nat → Mem → Prop} (hK : K0 μ b) : q_wp (gP 12 33 (some (b + 38))) μ Q ↔ Q (some (b + 62)) μ := by rw [wp_gP, show mP μ (64 * 12 + 33) (b + 38) = some (b + 62) from hK.p 801 38 62 (by decide)]; exact ⟨fun h => h.2, fun h => ⟨kk12 hK, h⟩⟩
theorem xl344 {μ : Mem} {b : Nat} {i : Int32} {Q : Int32 → Mem → Prop} (hK : K0 μ b) : q_wp (lI 344 (some (b + 62)) i) μ Q ↔ inA i 560 ∧ Q (aI μ 344 (b + 62) i.toNatClampNeg) μ := by rw [wp_lI, hK.n 62 560 (by decide)]; exact ⟨fun h => h.2, fun h => ⟨hK.k 62 344 (by decide), h⟩⟩
theorem xs344 {μ : Mem} {b : Nat} {i v : Int32} {Q : Unit → Mem → Prop} (hK : K0 μ b) : q_wp (stI 344 (some (b + 62)) i v) μ Q ↔ inA i 560 ∧ Q () (tI μ 344 (b + 62) i.toNatClampNeg v) := by rw [wp_stI, hK.n 62 560 (by decide)]; exact ⟨fun h => h.2, fun h => ⟨hK.k 62 344 (by decide), h⟩⟩
theorem xgP12_46 {μ : Mem} {b : Nat} {Q : Option Nat → Mem → Prop} (hK : K0 μ b) : q_wp (gP 12 46 (some (b + 38))) μ Q ↔ Q (some (b + 63)) μ := by rw [wp_gP, show mP μ (64 * 12 + 46) (b + 38) = some (b + 63) from hK.p 814 38 63 (by decide)]; exact ⟨fun h => h.2, fun h => ⟨kk12 hK, h⟩⟩
theorem xl352 {μ : Mem} {b : Nat} {i : Int32} {Q : Int32 → Mem → Prop} (hK : K0 μ b) : q_wp (lI 352 (some (b + 63)) i) μ Q ↔ inA i 6 ∧ Q (aI μ 352 (b + 63) i.toNatClampNeg) μ := by rw [wp_lI, hK.n 63 6 (by decide)]; exact ⟨fun h => h.2, fun h => ⟨hK.k 63 352 (by decide), h⟩⟩
theorem xs352 {μ : Mem} {b : Nat} {i v : Int32} {Q : Unit → Mem → Prop} (hK : K0 μ b) : q_wp (stI 352 (some (b + 63)) i v) μ Q ↔ inA i 6 ∧ Q () (tI μ 352 (b + 63) i.toNatClampNeg v) := by rw [wp_stI, hK.n 63 6 (by decide)]; exact ⟨fun h => h.2, fun h => ⟨hK.k 63 352 (by decide), h⟩⟩
theorem xgP12_47 {μ : Mem} {b : Nat} {Q : Option Nat → Mem → Prop} (hK : K0 μ b) : q_wp (gP 12 47 (some (b + 38))) μ Q ↔ Q (some (b + 64)) μ := by rw [wp_gP, show mP μ (64 * 12 + 47) (b + 38) = some (b + 64) from hK.p 815 38 64 (by decide)]; exact ⟨fun h => h.2, fun h => ⟨kk12 hK, h⟩⟩
theorem xl360 {μ : Mem} {b : Nat} {i : Int32} {Q : Int32 → Mem → Prop} (hK : K0 μ b) : q_wp (lI 360 (some (b + 64)) i) μ Q ↔ inA i 6 ∧ Q (aI μ 360 (b + 64) i.toNatClampNeg) μ := by rw [wp_lI, hK.n 64 6 (by decide)]; exact ⟨fun h => h.2, fun h => ⟨hK.k 64 360 (by decide), h⟩⟩
theorem xs360 {μ : Mem} {b : Nat} {i v : Int32} {Q : Unit → Mem → Prop} (hK : K0 μ b) : q_wp (stI 360 (some (b + 64)) i v) μ Q ↔ inA i 6 ∧ Q () (tI μ 360 (b + 64) i.toNatClampNeg v) := by rw [wp_stI, hK.n 64 6 (by decide)]; exact ⟨fun h => h.2, fun h => ⟨hK.k 64 360 (by decide), h⟩⟩
theorem xgP2_0 {μ : Mem} {b : Nat} {i : Nat} {Q : Option Nat → Mem → Prop} (hK : K0 μ b) (hi : i < 6) : q_wp (gP 2 0 (some (b + (9 + 4 * i)))) μ Q ↔ Q (some (b + (10 + 4 * i))) μ := by rw [wp_gP, show mP μ (64 * 2 + 0) (b + (9 + 4 * i)) = some (b + (10 + 4 * i)) from (hK.mo hi).2.1]; exact ⟨fun h => h.2, fun h => ⟨(hK.mo hi).1, h⟩⟩
theorem xpL2_0 {μ : Mem} {b : Nat} {i : Nat} {Q : Nat → Mem → Prop} (hK : K0 μ b) (hi : i < 6) : q_wp (pRc 13 (some (b + (10 + 4 * i)))) μ Q ↔ Q (b + (10 + 4 * i)) μ := by rw [wp_pRc]; exact ⟨fun h => h.2, fun h => ⟨(hK.mo hi).2.2.2.2.1, h⟩⟩
theorem xgP2_1 {μ : Mem} {b : Nat} {i : Nat} {Q : Option Nat → Mem → Prop} (hK : K0 μ b) (hi : i < 6) : q_wp (gP 2 1 (some (b + (9 + 4 * i)))) μ Q ↔ Q (some (b + (11 + 4 * i))) μ := by rw [wp_gP, show mP μ (64 * 2 + 1) (b + (9 + 4 * i)) = some (b + (11 + 4 * i)) from (hK.mo hi).2.2.1]; exact ⟨fun h => h.2, fun h => ⟨(hK.mo hi).1, h⟩⟩
theorem xpL2_1 {μ : Mem} {b : Nat} {i : Nat} {Q : Nat → Mem → Prop} (hK : K0 μ b) (hi : i < 6) : q_wp (pRc 13 (some (b + (11 + 4 * i)))) μ Q ↔ Q (b + (11 + 4 * i)) μ := by rw [wp_pRc]; exact ⟨fun h => h.2, fun h => ⟨(hK.mo hi).2.2.2.2.2.1, h⟩⟩
theorem xgP2_2 {μ : Mem} {b : Nat} {i : Nat} {Q : Option Nat → Mem → Prop} (hK : K0 μ b) (hi : i < 6) : q_wp (gP 2 2 (some (b + (9 + 4 * i)))) μ Q ↔ Q (some (b + (12 + 4 * i))) μ := by rw [wp_gP, show mP μ (64 * 2 + 2) (b + (9 + 4 * i)) = some (b + (12 + 4 * i)) from (hK.mo hi).2.2.2.1]; exact ⟨fun h => h.2, fun h => ⟨(hK.mo hi).1, h⟩⟩
theorem xpL2_2 {μ : Mem} {b : Nat} {i : Nat} {Q : Nat → Mem → Prop} (hK : K0 μ b) (hi : i < 6) : q_wp (pRc 13 (some (b + (12 + 4 * i)))) μ Q ↔ Q (b + (12 + 4 * i)) μ := by rw [wp_pRc]; exact ⟨fun h => h.2, fun h => ⟨(hK.mo hi).2.2.2.2.2.2, h⟩⟩
theorem xgI2 {μ : Mem} {b : Nat} {i k : Nat} {Q : Int32 → Mem → Prop} (hK : K0 μ b) (hi : i < 6) : q_wp (gI 2 k (some (b + (9 + 4 * i)))) μ Q ↔ Q (mI μ (64 * 2 + k) (b + (9 + 4 * i))) μ := by rw [wp_gI]; exact ⟨fun h => h.2, fun h => ⟨(hK.mo hi).1, h⟩⟩
theorem xwZ2 {μ : Mem} {b : Nat} {i k : Nat} {v : Int32} {Q : Unit → Mem → Prop} (hK : K0 μ b) (hi : i < 6) : q_wp (wZ 2 k (some (b + (9 + 4 * i))) v) μ Q ↔ (v = 0 ∨ v = 1) ∧ Q () (sI μ (64 * 2 + k) (b + (9 + 4 * i)) v) := by rw [wp_wZ]; exact ⟨fun h => h.2, fun h => ⟨(hK.mo hi).1, h⟩⟩
theorem xpR2 {μ : Mem} {b : Nat} {i : Nat} {Q : Nat → Mem → Prop} (hK : K0 μ b) (hi : i < 6) : q_wp (pRc 2 (some (b + (9 + 4 * i)))) μ Q ↔ Q (b + (9 + 4 * i)) μ := by rw [wp_pRc]; exact ⟨fun h => h.2, fun h => ⟨(hK.mo hi).1, h⟩⟩
theorem xmo {μ : Mem} {b : Nat} {i : Nat} {Q : Option Nat → Mem → Prop} (hK : K0 μ b) (hi : i < 6) : q_wp (lP 157 (some (b + 8)) (q_i3 i)) μ Q ↔ Q (some (b + (9 + 4 * i))) μ := by rw [wp_lP, hK.n 8 6 (by decide), inA_i3 (by omega), i3_toNat (by omega), hK.2.2.2 i hi]; exact ⟨fun h => h.2.2, fun h => ⟨hK.k 8 157 (by decide), hi, h⟩⟩
theorem xpL_5 {μ : Mem} {b : Nat} {Q : Nat → Mem → Prop} (hK : K0 μ b) : q_wp (pRc 13 (some (b + 5))) μ Q ↔ Q (b + 5) μ := by rw [wp_pRc]; exact ⟨fun h => h.2, fun h => ⟨hK.k 5 14 (by decide), h⟩⟩
theorem xpL_33 {μ : Mem} {b : Nat} {Q : Nat → Mem → Prop} (hK : K0 μ b) : q_wp (pRc 13 (some (b + 33))) μ Q ↔ Q (b + 33) μ := by rw [wp_pRc]; exact ⟨fun h => h.2, fun h => ⟨hK.k 33 14 (by decide), h⟩⟩
theorem xpL_34 {μ : Mem} {b : Nat} {Q : Nat → Mem → Prop} (hK : K0 μ b) : q_wp (pRc 13 (some (b + 34))) μ Q ↔ Q (b + 34) μ := by rw [wp_pRc]; exact ⟨fun h => h.2, fun h => ⟨hK.k 34 14 (by decide), h⟩⟩
theorem xpL_35 {μ : Mem} {b : Nat} {Q : Nat → Mem → Prop} (hK : K0 μ b) : q_wp (pRc 13 (some (b + 35))) μ Q ↔ Q (b + 35) μ := by rw [wp_pRc]; exact ⟨fun h => h.2, fun h => ⟨hK.k 35 14 (by decide), h⟩⟩
theorem xpL_36 {μ : Mem} {b : Nat} {Q : Nat → Mem → Prop} (hK : K0 μ b) : q_wp (pRc 13 (some (b + 36))) μ Q ↔ Q (b + 36) μ := by rw [wp_pRc]; exact ⟨fun h => h.2, fun h => ⟨hK.k 36 14 (by decide), h⟩⟩
theorem xpL_37 {μ : Mem} {b : Nat} {Q : Nat → Mem → Prop} (hK : K0 μ b) : q_wp (pRc 13 (some (b + 37))) μ Q ↔ Q (b + 37) μ := by rw [wp_pRc]; exact ⟨fun h => h.2, fun h => ⟨hK.k 37 14 (by decide), h⟩⟩

theorem swF_nil {α : Type} {x : Int32} {G : M α} : swF x [] G = G := rfl
theorem swF_cons {α : Type} {x : Int32} {q : Int32 × Nat × M α} {r : List (Int32 × Nat × M α)} {G : M α} : swF x (q :: r) G = if x = q.1 then q.2.2 else swF x r G := rfl
def fFault (s : q_St) (p : Int32) : Int32 := if p = 0 then (sP' s).2.2.1 else if p = 1 then (sP' s).2.2.2 else -1
theorem c_fault {μ : Mem} {b : Nat} {s : q_St} (hK : K0 μ b) (hW : WF μ) (hA : q_AC μ b s) (p : Int32) : q_wp (F_X11_fault b p) μ (fun r ν => r = fFault s p ∧ cOK μ b s 0 0 ν) := by
  obtain ⟨hM, hL, hO, hT, hD, hR, hN, hU, hP⟩ := id hA
  obtain ⟨p1, p2, p3, p4⟩ := hP
  unfold F_X11_fault fFault
  simp (maxSteps := 2000000) (disch := first | assumption | omega | (simp only [K0_sI, K0_sL, K0_tI, K0_tL, K0_nE]; assumption)) only [swF_cons, swF_nil, wp_bn, wp_rt, wp_ite, wp_rz, xgI11, xgL11, xwI11, xpR11, xgI4, xgL4, xwI4, xpR4, xgI7, xgL7, xwI7, xpR7, xgI12, xgL12, xwI12, xpR12, xgP11_0, xgP11_1, xgP11_2, xgP11_3, xgP11_4, xgP11_5, xgP11_6, xgP11_7, xgP4_0, xl115, xs115, xgP4_9, xl120, xs120, xgP7_0, xgP7_1, xl136, xs136, xgP7_2, xl144, xs144, xgP12_0, xl160, xs160, xgP12_4, xl168, xs168, xgP12_5, xl176, xs176, xgP12_6, xl184, xs184, xgP12_7, xl192, xs192, xgP12_8, xl200, xs200, xgP12_11, xl209, xs209, xgP12_12, xl218, xs218, xgP12_13, xl226, xs226, xgP12_14, xl232, xs232, xgP12_15, xl241, xs241, xgP12_16, xl248, xs248, xgP12_17, xl256, xs256, xgP12_18, xl264, xs264, xgP12_19, xl274, xs274, xgP12_20, xl280, xs280, xgP12_22, xl288, xs288, xgP12_25, xl296, xs296, xgP12_26, xl305, xs305, xgP12_27, xl312, xs312, xgP12_28, xl321, xs321, xgP12_29, xl328, xs328, xgP12_31, xl336, xs336, xgP12_33, xl344, xs344, xgP12_46, xl352, xs352, xgP12_47, xl360, xs360, xgP2_0, xpL2_0, xgP2_1, xpL2_1, xgP2_2, xpL2_2, xgI2, xwZ2, xpR2, xmo, xpL_5, xpL_33, xpL_34, xpL_35, xpL_36, xpL_37, Nat.reduceMul, Nat.reduceAdd, p2, p3]
  have := cOK.rf (x := 0) (y := 0) hK hW hA
  split
  · exact ⟨rfl, this⟩
  · split
    · exact ⟨rfl, this⟩
    · exact ⟨rfl, this⟩
theorem r_fault {μ : Mem} {b : Nat} {s : q_St} (hK : K0 μ b) (hA : q_AR μ b s) (p : Int32) : q_wp (F_X12_fault (b + 38) p) μ (fun r ν => r = fFault s p ∧ rOK μ b s 0 ν) := by
  obtain ⟨hM, hL, hO, hT, hD, hR, hN, hU, hP⟩ := id hA
  obtain ⟨p1, p2, p3, p4⟩ := hP
  unfold F_X12_fault fFault
  have := rOK.th hK hA 0
  simp (maxSteps := 2000000) (disch := first | assumption | omega | (simp only [K0_sI, K0_sL, K0_tI, K0_tL, K0_nE]; assumption)) only [wp_bn, wp_rt, wp_ite, wp_rz, xgI11, xgL11, xwI11, xpR11, xgI4, xgL4, xwI4, xpR4, xgI7, xgL7, xwI7, xpR7, xgI12, xgL12, xwI12, xpR12, xgP11_0, xgP11_1, xgP11_2, xgP11_3, xgP11_4, xgP11_5, xgP11_6, xgP11_7, xgP4_0, xl115, xs115, xgP4_9, xl120, xs120, xgP7_0, xgP7_1, xl136, xs136, xgP7_2, xl144, xs144, xgP12_0, xl160, xs160, xgP12_4, xl168, xs168, xgP12_5, xl176, xs176, xgP12_6, xl184, xs184, xgP12_7, xl192, xs192, xgP12_8, xl200, xs200, xgP12_11, xl209, xs209, xgP12_12, xl218, xs218, xgP12_13, xl226, xs226, xgP12_14, xl232, xs232, xgP12_15, xl241, xs241, xgP12_16, xl248, xs248, xgP12_17, xl256, xs256, xgP12_18, xl264, xs264, xgP12_19, xl274, xs274, xgP12_20, xl280, xs280, xgP12_22, xl288, xs288, xgP12_25, xl296, xs296, xgP12_26, xl305, xs305, xgP12_27, xl312, xs312, xgP12_28, xl321, xs321, xgP12_29, xl328, xs328, xgP12_31, xl336, xs336, xgP12_33, xl344, xs344, xgP12_46, xl352, xs352, xgP12_47, xl360, xs360, xgP2_0, xpL2_0, xgP2_1, xpL2_1, xgP2_2, xpL2_2, xgI2, xwZ2, xpR2, xmo, xpL_5, xpL_33, xpL_34, xpL_35, xpL_36, xpL_37, Nat.reduceMul, Nat.reduceAdd, mI_sI', mL_sL', mP_sP', aI_tI', aL_tL', aP_tP', mI_sL, mI_sP, mI_tI, mI_tL, mI_tP, mL_sI, mL_sP, mL_tI, mL_tL, mL_tP, mP_sI, mP_sL, mP_tI, mP_tL, mP_tP, aI_sI, aI_sL, aI_sP, aI_tL, aI_tP, aL_sI, aL_sL, aL_sP, aL_tI, aL_tP, aP_sI, aP_sL, aP_sP, aP_tI, aP_tL, mK_sI, mK_sL, mK_sP, mK_tI, mK_tL, mK_tP, mN_sI, mN_sL, mN_sP, mN_tI, mN_tL, mN_tP, mX_sI, mX_sL, mX_sP, mX_tI, mX_tL, mX_tP, mS_sI, mS_sL, mS_sP, mS_tI, mS_tL, mS_tP, mT_sI, mT_sL, mT_sP, mT_tI, mT_tL, mT_tP]
  by_cases h0 : p = 0
  · simp [h0, p2, this]
  · by_cases h1 : p = 1
    · simp [h1, p3, this]
    · simp [h0, h1, this]
def wM (s : q_St) (v : q_VM) : q_St := (v, s.2)
def wG (s : q_St) (v : VL) : q_St := (s.1, v, s.2.2)
def wO (s : q_St) (v : q_VO) : q_St := (s.1, s.2.1, v, s.2.2.2)
def wT (s : q_St) (v : q_VT) : q_St := (s.1, s.2.1, s.2.2.1, v, s.2.2.2.2)
def wD (s : q_St) (v : VD) : q_St := (s.1, s.2.1, s.2.2.1, s.2.2.2.1, v, s.2.2.2.2.2)
def wR (s : q_St) (v : q_VT) : q_St := (s.1, s.2.1, s.2.2.1, s.2.2.2.1, s.2.2.2.2.1, v, s.2.2.2.2.2.2)
def q_wN (s : q_St) (v : q_VT) : q_St := (s.1, s.2.1, s.2.2.1, s.2.2.2.1, s.2.2.2.2.1, s.2.2.2.2.2.1, v, s.2.2.2.2.2.2.2)
def wU (s : q_St) (v : List q_Ru) : q_St := (s.1, s.2.1, s.2.2.1, s.2.2.2.1, s.2.2.2.2.1, s.2.2.2.2.2.1, s.2.2.2.2.2.2.1, v, s.2.2.2.2.2.2.2.2)
def wP' (s : q_St) (v : VP) : q_St := (s.1, s.2.1, s.2.2.1, s.2.2.2.1, s.2.2.2.2.1, s.2.2.2.2.2.1, s.2.2.2.2.2.2.1, s.2.2.2.2.2.2.2.1, v)
def fEnd (s : q_St) (p : Int32) : Int32 × q_St := if q_inR p ((sP' s).1 + 1) then (1, wP' s (p.toNatClampNeg, (sP' s).2)) else (0, s)
theorem inR_out {p : Int32} {n : Nat} (hn : n < 2147483648) (h : ¬ q_inR p n) : p < 0 ∨ (¬ p < 0 ∧ q_i3 n ≤ p) := by
  have h0 : (0 : Int32).toInt = 0 := rfl
  rw [Int32.lt_iff_toInt_lt, Int32.le_iff_toInt_le, i3_toInt hn]
  unfold q_inR at h
  omega
theorem c_end {μ : Mem} {b c : Nat} {s : q_St} (hK : K0 μ b) (hW : WF μ) (hA : q_AC μ b s) (hI : Iv s c) (p : Int32) : q_wp (F_X11_end b p) μ (fun r ν => r = (fEnd s p).1 ∧ cOK μ b (fEnd s p).2 0 0 ν) := by
  obtain ⟨hM, hL, hO, hT, hD, hR, hN, hU, hP⟩ := id hA
  obtain ⟨p1, p2, p3, p4⟩ := hP
  have hb := hI.2.2.2.2.2.2.2.2
  unfold F_X11_end fEnd
  simp (maxSteps := 2000000) (disch := first | assumption | omega | (simp only [K0_sI, K0_sL, K0_tI, K0_tL, K0_nE]; assumption)) only [wp_bn, wp_rt, wp_ite, wp_rz, xgI11, xgL11, xwI11, xpR11, xgI4, xgL4, xwI4, xpR4, xgI7, xgL7, xwI7, xpR7, xgI12, xgL12, xwI12, xpR12, xgP11_0, xgP11_1, xgP11_2, xgP11_3, xgP11_4, xgP11_5, xgP11_6, xgP11_7, xgP4_0, xl115, xs115, xgP4_9, xl120, xs120, xgP7_0, xgP7_1, xl136, xs136, xgP7_2, xl144, xs144, xgP12_0, xl160, xs160, xgP12_4, xl168, xs168, xgP12_5, xl176, xs176, xgP12_6, xl184, xs184, xgP12_7, xl192, xs192, xgP12_8, xl200, xs200, xgP12_11, xl209, xs209, xgP12_12, xl218, xs218, xgP12_13, xl226, xs226, xgP12_14, xl232, xs232, xgP12_15, xl241, xs241, xgP12_16, xl248, xs248, xgP12_17, xl256, xs256, xgP12_18, xl264, xs264, xgP12_19, xl274, xs274, xgP12_20, xl280, xs280, xgP12_22, xl288, xs288, xgP12_25, xl296, xs296, xgP12_26, xl305, xs305, xgP12_27, xl312, xs312, xgP12_28, xl321, xs321, xgP12_29, xl328, xs328, xgP12_31, xl336, xs336, xgP12_33, xl344, xs344, xgP12_46, xl352, xs352, xgP12_47, xl360, xs360, xgP2_0, xpL2_0, xgP2_1, xpL2_1, xgP2_2, xpL2_2, xgI2, xwZ2, xpR2, xmo, xpL_5, xpL_33, xpL_34, xpL_35, xpL_36, xpL_37, Nat.reduceMul, Nat.reduceAdd, p1]
  by_cases h : q_inR p ((sP' s).1 + 1)
  · obtain ⟨i, hi, rfl⟩ := inR_i3 h
    rw [if_pos h, if_neg (i3_nn (by omega)), if_pos ((i3_le (by omega) (by omega)).mpr (by omega))]
    refine ⟨Or.inr trivial, rfl, ?_⟩
    rw [i3_toNat (by omega)]
    have hC := (Md.sI (f := 257) (v := q_i3 i) (show mK μ (b + 1) ≠ 0 by rw [hK.k 1 5 (by decide)]; omega)).cs (b := b) hW rfl
    refine cOK.of hK ⟨hM.fr hC.2.1 (hC.2.2.1 33 (by decide) (by decide)) rfl, hL.fr hC.2.1 (fun i hi => hC.2.2.1 _ (lgO_lo hi) (lgNo (by decide) hi)) rfl, hO.fr hC.2.1 (fun i hi s => hC.2.2.1 _ (sdO_lo hi s) (sdNo (by decide) hi s)) rfl, hT.fr hC.2.1 (hC.2.2.1 34 (by decide) (by decide)) rfl, hD.fr hC.2.1 (hC.2.2.1 37 (by decide) (by decide)) rfl, hR.fr hC.2.1 (hC.2.2.1 35 (by decide) (by decide)) rfl, hN.fr hC.2.1 (hC.2.2.1 36 (by decide) (by decide)) rfl, hU.fr hC.2.1 (hC.2.2.1 5 (by decide) (by decide)) rfl, ?_⟩ hC rfl rfl
    show CP _ b (i, (sP' s).2)
    refine ⟨by rw [mI_sI']; simp, by rw [mI_sI']; simpa using p2, by rw [mI_sI']; simpa using p3, fun j hj => p4 j (by have hj : j < i := hj; omega)⟩
  · rw [if_neg h]
    rcases inR_out (by omega) h with h1 | ⟨h1, h2⟩
    · rw [if_pos h1]; exact ⟨Or.inl trivial, rfl, cOK.rf hK hW hA⟩
    · have h3 : ¬ p ≤ q_i3 (sP' s).1 := by
        rw [Int32.le_iff_toInt_le, i3_toInt (by omega)] at h2 ⊢; omega
      rw [if_neg h1, if_neg h3]; exact ⟨Or.inl trivial, rfl, cOK.rf hK hW hA⟩
theorem rOK.of {S : List Nat} {b : Nat} {μ ν : Mem} {s' : q_St} {th : Int32} (h : q_AR ν b s') (hC : Md S μ ν) (h1 : subL S RS = true) (h2 : mI ν 803 (b + 38) = th) : rOK μ b s' th ν := ⟨h, hC.wk h1, h2⟩
theorem kr {μ : Mem} {b : Nat} (hK : K0 μ b) (o : Nat) (k : Nat) (hm : (o, k + 1) ∈ q_KT) : mK μ (b + o) ≠ 0 := by rw [hK.k o (k + 1) hm]; omega
theorem r_end {μ : Mem} {b c : Nat} {s : q_St} (hK : K0 μ b) (hA : q_AR μ b s) (hI : Iv s c) (p : Int32) : q_wp (F_X12_end (b + 38) p) μ (fun r ν => r = (fEnd s p).1 ∧ rOK μ b (fEnd s p).2 0 ν) := by
  obtain ⟨hM, hL, hO, hT, hD, hR, hN, hU, hP⟩ := id hA
  obtain ⟨p1, p2, p3, p4⟩ := hP
  have hb := hI.2.2.2.2.2.2.2.2
  unfold F_X12_end fEnd
  have e1 : mI (sI μ 803 (b + 38) 0) 769 (b + 38) = q_i3 (sP' s).1 := by rw [mI_sI']; simpa using p1
  simp (maxSteps := 2000000) (disch := first | assumption | omega | (simp only [K0_sI, K0_sL, K0_tI, K0_tL, K0_nE]; assumption)) only [wp_bn, wp_rt, wp_ite, wp_rz, xgI11, xgL11, xwI11, xpR11, xgI4, xgL4, xwI4, xpR4, xgI7, xgL7, xwI7, xpR7, xgI12, xgL12, xwI12, xpR12, xgP11_0, xgP11_1, xgP11_2, xgP11_3, xgP11_4, xgP11_5, xgP11_6, xgP11_7, xgP4_0, xl115, xs115, xgP4_9, xl120, xs120, xgP7_0, xgP7_1, xl136, xs136, xgP7_2, xl144, xs144, xgP12_0, xl160, xs160, xgP12_4, xl168, xs168, xgP12_5, xl176, xs176, xgP12_6, xl184, xs184, xgP12_7, xl192, xs192, xgP12_8, xl200, xs200, xgP12_11, xl209, xs209, xgP12_12, xl218, xs218, xgP12_13, xl226, xs226, xgP12_14, xl232, xs232, xgP12_15, xl241, xs241, xgP12_16, xl248, xs248, xgP12_17, xl256, xs256, xgP12_18, xl264, xs264, xgP12_19, xl274, xs274, xgP12_20, xl280, xs280, xgP12_22, xl288, xs288, xgP12_25, xl296, xs296, xgP12_26, xl305, xs305, xgP12_27, xl312, xs312, xgP12_28, xl321, xs321, xgP12_29, xl328, xs328, xgP12_31, xl336, xs336, xgP12_33, xl344, xs344, xgP12_46, xl352, xs352, xgP12_47, xl360, xs360, xgP2_0, xpL2_0, xgP2_1, xpL2_1, xgP2_2, xpL2_2, xgI2, xwZ2, xpR2, xmo, xpL_5, xpL_33, xpL_34, xpL_35, xpL_36, xpL_37, Nat.reduceMul, Nat.reduceAdd, e1]
  by_cases h : q_inR p ((sP' s).1 + 1)
  · obtain ⟨i, hi, rfl⟩ := inR_i3 h
    rw [if_pos h, if_neg (i3_nn (by omega)), if_pos ((i3_le (by omega) (by omega)).mpr (by omega))]
    refine ⟨Or.inr trivial, rfl, ?_⟩
    rw [i3_toNat (by omega)]
    have hC := (Md.sI (f := 803) (v := 0) (kr hK 38 12 (by decide))).tr (Md.sI (μ := sI μ 803 (b + 38) 0) (f := 769) (v := q_i3 i) (kr hK 38 12 (by decide)))
    refine rOK.of ⟨hM.fr hC.1 rfl, hL.fr hC.1 rfl, hO.fr hC.1 rfl, hT.fr hC.1 rfl, hD.fr hC.1 rfl, hR.fr hC.1 rfl, hN.fr hC.1 rfl, hU.fr hC.1 rfl, ?_⟩ hC rfl (by simp only [mI_sI', mL_sL', mP_sP', aI_tI', aL_tL', aP_tP', mI_sL, mI_sP, mI_tI, mI_tL, mI_tP, mL_sI, mL_sP, mL_tI, mL_tL, mL_tP, mP_sI, mP_sL, mP_tI, mP_tL, mP_tP, aI_sI, aI_sL, aI_sP, aI_tL, aI_tP, aL_sI, aL_sL, aL_sP, aL_tI, aL_tP, aP_sI, aP_sL, aP_sP, aP_tI, aP_tL, mK_sI, mK_sL, mK_sP, mK_tI, mK_tL, mK_tP, mN_sI, mN_sL, mN_sP, mN_tI, mN_tL, mN_tP, mX_sI, mX_sL, mX_sP, mX_tI, mX_tL, mX_tP, mS_sI, mS_sL, mS_sP, mS_tI, mS_tL, mS_tP, mT_sI, mT_sL, mT_sP, mT_tI, mT_tL, mT_tP]; simp)
    show RP _ b (i, (sP' s).2)
    refine ⟨by rw [mI_sI']; simp, by simp only [mI_sI', mL_sL', mP_sP', aI_tI', aL_tL', aP_tP', mI_sL, mI_sP, mI_tI, mI_tL, mI_tP, mL_sI, mL_sP, mL_tI, mL_tL, mL_tP, mP_sI, mP_sL, mP_tI, mP_tL, mP_tP, aI_sI, aI_sL, aI_sP, aI_tL, aI_tP, aL_sI, aL_sL, aL_sP, aL_tI, aL_tP, aP_sI, aP_sL, aP_sP, aP_tI, aP_tL, mK_sI, mK_sL, mK_sP, mK_tI, mK_tL, mK_tP, mN_sI, mN_sL, mN_sP, mN_tI, mN_tL, mN_tP, mX_sI, mX_sL, mX_sP, mX_tI, mX_tL, mX_tP, mS_sI, mS_sL, mS_sP, mS_tI, mS_tL, mS_tP, mT_sI, mT_sL, mT_sP, mT_tI, mT_tL, mT_tP]; simpa using p2, by simp only [mI_sI', mL_sL', mP_sP', aI_tI', aL_tL', aP_tP', mI_sL, mI_sP, mI_tI, mI_tL, mI_tP, mL_sI, mL_sP, mL_tI, mL_tL, mL_tP, mP_sI, mP_sL, mP_tI, mP_tL, mP_tP, aI_sI, aI_sL, aI_sP, aI_tL, aI_tP, aL_sI, aL_sL, aL_sP, aL_tI, aL_tP, aP_sI, aP_sL, aP_sP, aP_tI, aP_tL, mK_sI, mK_sL, mK_sP, mK_tI, mK_tL, mK_tP, mN_sI, mN_sL, mN_sP, mN_tI, mN_tL, mN_tP, mX_sI, mX_sL, mX_sP, mX_tI, mX_tL, mX_tP, mS_sI, mS_sL, mS_sP, mS_tI, mS_tL, mS_tP, mT_sI, mT_sL, mT_sP, mT_tI, mT_tL, mT_tP]; simpa using p3, fun j hj => p4 j (by have hj : j < i := hj; omega)⟩
  · rw [if_neg h]
    rcases inR_out (by omega) h with h1 | ⟨h1, h2⟩
    · rw [if_pos h1]; exact ⟨Or.inl trivial, rfl, rOK.th hK hA 0⟩
    · have h3 : ¬ p ≤ q_i3 (sP' s).1 := by
        rw [Int32.le_iff_toInt_le, i3_toInt (by omega)] at h2 ⊢; omega
      rw [if_neg h1, if_neg h3]; exact ⟨Or.inl trivial, rfl, rOK.th hK hA 0⟩
theorem q_CM.el {μ : Mem} {b : Nat} {v : q_VM} (h : q_CM μ b v) : ∀ r, r ∈ q_lst μ (b + 33) → mK μ r = 1 + 1 := by
  intro r hr
  obtain ⟨i, hi, hri⟩ := List.mem_iff_getElem.mp hr
  have := (h.2 i (by rw [← h.1]; exact hi)).1.1
  unfold mr at this
  rw [List.getD_eq_getElem?_getD, List.getElem?_eq_getElem hi, Option.getD_some, hri] at this
  exact this
theorem c_memberOf {μ : Mem} {b : Nat} {v : q_VM} (hK : K0 μ b) (hW : WF μ) (hM : q_CM μ b v) (p : Int32) : F_X11_memberOf b p μ = some (if q_inR p (vN v) then some (mr μ b p.toNatClampNeg) else none, μ) :=
  of_list (f := 3) (a := b + 33) hW (kk11 hK) (hK.p 707 0 33 (by decide)) (hK.k 33 14 (by decide)) hM.1 hM.el
theorem r_isMember {μ : Mem} {b : Nat} {v : q_VM} (hK : K0 μ b) (hM : q_RM μ b v) (hn : vN v ≤ 12) (p : Int32) : F_X12_isMember (b + 38) p μ = some (if q_inR p (vN v) then 1 else 0, μ) := by
  apply eq_wp
  unfold F_X12_isMember
  simp (maxSteps := 2000000) (disch := first | assumption | omega | (simp only [K0_sI, K0_sL, K0_tI, K0_tL, K0_nE]; assumption)) only [wp_bn, wp_rt, wp_ite, wp_rz, xgI11, xgL11, xwI11, xpR11, xgI4, xgL4, xwI4, xpR4, xgI7, xgL7, xwI7, xpR7, xgI12, xgL12, xwI12, xpR12, xgP11_0, xgP11_1, xgP11_2, xgP11_3, xgP11_4, xgP11_5, xgP11_6, xgP11_7, xgP4_0, xl115, xs115, xgP4_9, xl120, xs120, xgP7_0, xgP7_1, xl136, xs136, xgP7_2, xl144, xs144, xgP12_0, xl160, xs160, xgP12_4, xl168, xs168, xgP12_5, xl176, xs176, xgP12_6, xl184, xs184, xgP12_7, xl192, xs192, xgP12_8, xl200, xs200, xgP12_11, xl209, xs209, xgP12_12, xl218, xs218, xgP12_13, xl226, xs226, xgP12_14, xl232, xs232, xgP12_15, xl241, xs241, xgP12_16, xl248, xs248, xgP12_17, xl256, xs256, xgP12_18, xl264, xs264, xgP12_19, xl274, xs274, xgP12_20, xl280, xs280, xgP12_22, xl288, xs288, xgP12_25, xl296, xs296, xgP12_26, xl305, xs305, xgP12_27, xl312, xs312, xgP12_28, xl321, xs321, xgP12_29, xl328, xs328, xgP12_31, xl336, xs336, xgP12_33, xl344, xs344, xgP12_46, xl352, xs352, xgP12_47, xl360, xs360, xgP2_0, xpL2_0, xgP2_1, xpL2_1, xgP2_2, xpL2_2, xgI2, xwZ2, xpR2, xmo, xpL_5, xpL_33, xpL_34, xpL_35, xpL_36, xpL_37, Nat.reduceMul, Nat.reduceAdd, hM.1]
  rw [wp_eq (in_cnt (by omega))]
  refine ⟨?_, rfl, rfl⟩
  by_cases h : q_inR p (vN v)
  · rw [if_pos h]; exact Or.inr rfl
  · rw [if_neg h]; exact Or.inl rfl
