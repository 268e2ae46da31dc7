def pRul (x : q_Lx) (n q : Nat) : Except q_Er (Nat × Int32 × Int32 × q_Pr) :=
  if ¬ lxk x q < 6 then .error (2, lxf x q) else if 30 ≤ n then .error (4, lxf x q) else
  thn (adE x q) fun q1 => if lxk x q1 = 12 then thn (adE x q1) fun q2 => if lxk x q2 = 16 ∧ lxv x q2 ≤ 150 then thn (adE x q2) fun q3 => if lxk x q3 = 13 then thn (adE x q3) fun q_q4 => thn ((pLv x 12).1 q_q4 0) fun r => if lxk x r.1 = 59 then thn (adE x r.1) fun q6 => .ok (q6, lxk x q, lxv x q2, r) else .error (2, lxf x r.1) else .error (2, lxf x q3) else .error (2, lxf x q2) else .error (2, lxf x q1)
def rSt (μ : Mem) (b : Nat) (x : q_Lx) (L q : Nat) : Prop := cTok μ b x q ∧ lxk x q ≠ -1 ∧ q ≤ L
def q_Bk (b : Nat) (tp : Nat → Int32) (L : Nat) (P : M Unit) : Prop := ∀ ν e, q_Env ν b tp L → CBr ν b e → q_wp P ν (fun _ ρ => Md PT' ν ρ ∧ CBr ρ b e)
theorem CBr.md {S : List Nat} {μ ν : Mem} {b : Nat} {e : q_Er} (h : CBr μ b e) (m : Md S μ ν) (hS : disj [262, 258, 259] S = true) : CBr ν b e := by
  obtain ⟨h1, h2, h3⟩ := h
  exact ⟨by rw [m.1.i 262 (disj_nc hS (by decide))]; exact h1, by rw [m.1.i 258 (disj_nc hS (by decide))]; exact h2, by rw [m.1.i 259 (disj_nc hS (by decide))]; exact h3⟩
theorem Bk_rt {b L : Nat} {tp : Nat → Int32} : q_Bk b tp L (rt ()) := fun ν e _ h => by rw [wp_rt]; exact ⟨(Md.rf ν).wk rfl, h⟩
theorem Bk_bn {b L : Nat} {tp : Nat → Int32} {P K : M Unit} (h1 : q_Bk b tp L P) (h2 : q_Bk b tp L K) : q_Bk b tp L (bn P fun _ => K) := fun ν e hE h => by
  rw [wp_bn]
  refine q_wp_mono (h1 ν e hE h) ?_
  rintro _ ρ ⟨m1, c1⟩
  refine q_wp_mono (h2 ρ e (hE.md m1 rfl) c1) ?_
  rintro _ σ ⟨m2, c2⟩
  exact ⟨(m1.tr m2).wk rfl, c2⟩
theorem Bk_call {b L : Nat} {tp : Nat → Int32} {P : Nat → M Unit} {K : M Unit} (h1 : q_Bk b tp L (P (b + 1))) (h2 : q_Bk b tp L K) : q_Bk b tp L (bn (pRc 4 (some (b + 1))) fun b1 => bn (P b1) fun _ => K) := fun ν e hE h => by
  rw [wp_bn, xpR4 hE.1]; exact Bk_bn h1 h2 ν e hE h
theorem Bk_kind {b L : Nat} {tp : Nat → Int32} {K : Int32 → M Unit} (h : q_Bk b tp L (K 18)) : q_Bk b tp L (bn (gI 4 6 (some (b + 1))) K) := fun ν e hE hB => by
  rw [wp_bn, xgI4 hE.1, show mI ν (64 * 4 + 6) (b + 1) = 18 from hB.1]; exact h ν e hE hB
theorem Bk_num {b L : Nat} {tp : Nat → Int32} {K : Int32 → M Unit} (h : ∀ v, q_Bk b tp L (K v)) : q_Bk b tp L (bn (gI 4 7 (some (b + 1))) K) := fun ν e hE hB => by
  rw [wp_bn, xgI4 hE.1]; exact h _ ν e hE hB
theorem Bk_ref {b L : Nat} {tp : Nat → Int32} {y k : Int32} : q_Bk b tp L (F_X4_refuseIf (b + 1) y k) := fun ν e hE h => by
  rw [wp_eq (c_refB hE.1 h.1)]; exact ⟨(Md.rf ν).wk rfl, h⟩
theorem Bk_adv {b L : Nat} {tp : Nat → Int32} : q_Bk b tp L (F_X4_advance (b + 1)) := fun ν e hE h => by
  rw [wp_eq (c_adB hE.1 h.1)]; exact ⟨(Md.rf ν).wk rfl, h⟩
theorem Bk_w8 {b L : Nat} {tp : Nat → Int32} {v : Int32} {K : M Unit} (h : q_Bk b tp L K) : q_Bk b tp L (bn (wI 4 8 (some (b + 1)) v) fun _ => K) := fun ν e hE hB => by
  rw [wp_bn, xwI4 hE.1]
  have m1 : Md [264] ν (sI ν (64 * 4 + 8) (b + 1) v) := Md.sI (by rw [kk4 hE.1]; omega)
  refine q_wp_mono (h _ e (hE.md m1 rfl) (hB.md m1 rfl)) ?_
  rintro _ ρ ⟨m2, c2⟩
  exact ⟨(m1.tr m2).wk rfl, c2⟩
theorem Bk_w10 {b L : Nat} {tp : Nat → Int32} {K : M Unit} (h : Brk b tp L K) : q_Bk b tp L (bn (wI 4 10 (some (b + 1)) 0) fun _ => K) := fun ν e hE hB => by
  rw [wp_bn, xwI4 hE.1]
  have m1 : Md [266] ν (sI ν (64 * 4 + 10) (b + 1) 0) := Md.sI (by rw [kk4 hE.1]; omega)
  refine q_wp_mono (h _ e (hE.md m1 rfl) ⟨hB.md m1 rfl, 0, by omega, by rw [mI_sI', if_pos ⟨rfl, rfl⟩]; rfl⟩) ?_
  rintro _ ρ ⟨m2, c2⟩
  exact ⟨(m1.tr m2).wk rfl, c2.1⟩
theorem Bk_only {b L : Nat} {tp : Nat → Int32} {c : Int32} (hc : ¬ (18 : Int32) = c) : q_Bk b tp L (F_X4_readOnly (b + 1) c) := by
  unfold F_X4_readOnly F_X4_readOnly_L14
  refine Bk_kind ?_
  rw [if_neg hc]
  exact Bk_call (P := fun b2 => F_X4_refuseIf b2 1 2) Bk_ref (Bk_call (P := fun b3 => F_X4_advance b3) Bk_adv Bk_rt)
theorem Brk_only {b L : Nat} {tp : Nat → Int32} {c : Int32} (hc : ¬ (18 : Int32) = c) : Brk b tp L (F_X4_readOnly (b + 1) c) := by
  unfold F_X4_readOnly F_X4_readOnly_L14
  refine Brk_kind ?_
  rw [if_neg hc]
  exact Brk_call (P := fun b2 => F_X4_refuseIf b2 1 2) Brk_ref (Brk_call (P := fun b3 => F_X4_advance b3) Brk_adv Brk_rt)
theorem q_kA {b L q : Nat} {tp : Nat → Int32} {x : q_Lx} {μ : Mem} {K : M Unit} {Q : Unit → Mem → Prop} (hA : AdvOK b tp L x) (hx : xOK x L) (hE : q_Env μ b tp L) (h : rSt μ b x L q) (hK : q_Bk b tp L K) (hok : ∀ ν, adE x q = .ok (lxn x q) → q_Env ν b tp L → Md AT' μ ν → rSt ν b x L (lxn x q) → q_wp K ν Q) (her : ∀ e ν, adE x q = .error e → q_Env ν b tp L → Md PT' μ ν → CBr ν b e → Q () ν) : q_wp (bn (F_X4_advance (b + 1)) fun _ => K) μ Q := by
  obtain ⟨hT, hne, hq⟩ := h
  obtain ⟨t1, t2, t3, t4, t5, t6⟩ := id hT
  rw [wp_bn]
  refine q_wp_mono (hA μ (lxn x q) hE (by rw [t3]; exact xk18 hx hq) t5 t6 (hx.2 q hq).1 t1) ?_
  rintro _ ν ⟨m1, g1, g2⟩
  have E1 := hE.md m1 rfl
  by_cases hb : lxk x (lxn x q) = -1
  · have er : adE x q = .error (1, lxf x (lxn x q)) := by unfold adE; rw [if_pos hb]
    refine q_wp_mono (hK ν _ E1 (g1 hb)) ?_
    rintro _ ρ ⟨m2, c2⟩
    exact her _ ρ er (E1.md m2 rfl) ((m1.tr m2).wk rfl) c2
  · have ok : adE x q = .ok (lxn x q) := by unfold adE; rw [if_neg hb]
    exact hok ν ok E1 m1 ⟨g2 hb, hb, (hx.2 q hq).1⟩
theorem kR {b L q : Nat} {tp : Nat → Int32} {x : q_Lx} {μ : Mem} {k : Int32} {K : M Unit} {Q : Unit → Mem → Prop} (hx : xOK x L) (hE : q_Env μ b tp L) (h : rSt μ b x L q) (hK : q_Bk b tp L K) (her : ∀ ν, q_Env ν b tp L → Md PT' μ ν → CBr ν b (k, lxf x q) → Q () ν) : q_wp (bn (F_X4_refuseIf (b + 1) 1 k) fun _ => K) μ Q := by
  obtain ⟨hT, hne, hq⟩ := h
  obtain ⟨t1, t2, t3, t4, t5, t6⟩ := id hT
  rw [wp_bn]
  refine q_wp_mono (c_ref1 hE.1 (by rw [t3]; exact xk18 hx hq) t2) ?_
  rintro _ ν ⟨m1, B1⟩
  have E1 := hE.md m1 rfl
  refine q_wp_mono (hK ν _ E1 B1) ?_
  rintro _ ρ ⟨m2, c2⟩
  exact her ρ (E1.md m2 rfl) ((m1.tr m2).wk rfl) c2
theorem kO {b L q : Nat} {tp : Nat → Int32} {x : q_Lx} {μ : Mem} {c : Int32} {K : M Unit} {Q : Unit → Mem → Prop} (hA : AdvOK b tp L x) (hx : xOK x L) (hE : q_Env μ b tp L) (h : rSt μ b x L q) (hK : q_Bk b tp L K) (hok : ∀ ν, lxk x q = c → adE x q = .ok (lxn x q) → q_Env ν b tp L → Md AT' μ ν → rSt ν b x L (lxn x q) → q_wp K ν Q) (her : ∀ e ν, (lxk x q = c → adE x q = .error e) → (lxk x q ≠ c → e = (2, lxf x q)) → q_Env ν b tp L → Md PT' μ ν → CBr ν b e → Q () ν) : q_wp (bn (F_X4_readOnly (b + 1) c) fun _ => K) μ Q := by
  unfold F_X4_readOnly F_X4_readOnly_L14
  rw [wp_bn, wp_bn, xgI4 hE.1, show mI μ (64 * 4 + 6) (b + 1) = lxk x q from h.1.2.2.1, wp_ite]
  have as : ∀ {P : M Unit} {ν : Mem}, q_wp (bn P fun _ => K) ν Q → q_wp P ν (fun _ ρ => q_wp K ρ Q) := fun h => wp_bn.mp h
  by_cases e : lxk x q = c
  · rw [if_pos e, wp_bn, xpR4 hE.1, wp_bn, wp_eq c_ref0, wp_bn, xpR4 hE.1]
    have := q_kA (K := K) (Q := Q) hA hx hE h hK (fun ν h1 h2 h3 h4 => hok ν e h1 h2 h3 h4) (fun er ν h1 h2 h3 h4 => her er ν (fun _ => h1) (fun z => absurd e z) h2 h3 h4)
    rw [wp_bn] at this ⊢
    refine q_wp_mono this ?_
    intro _ ρ hρ
    rw [wp_rt]; exact hρ
  · rw [if_neg e, wp_bn, xpR4 hE.1]
    refine q_wp_mono (kR (k := 2) (Q := fun _ ρ => ∃ er : q_Er, er = (2, lxf x q) ∧ q_Env ρ b tp L ∧ Md PT' μ ρ ∧ CBr ρ b er) hx hE h (Bk_call (P := fun b3 => F_X4_advance b3) Bk_adv Bk_rt) (fun ν h2 h3 h4 => ⟨_, rfl, h2, h3, h4⟩)) ?_
    rintro _ ρ ⟨er, rfl, h2, h3, h4⟩
    refine q_wp_mono (hK ρ _ h2 h4) ?_
    rintro _ σ ⟨m5, c5⟩
    exact her _ σ (fun z => absurd z e) (fun _ => rfl) (h2.md m5 rfl) ((h3.tr m5).wk rfl) c5
def ruleTail (b : Nat) (x1 : Option Nat) (x2 x3 : Int32) : M Unit := bn (newO 6 3) fun r16 => bn (gP 4 9 (some (b + 1))) fun v17 => bn (gI 4 10 (some (b + 1))) fun v18 => bn (F_J7_copyOf_59c91 v17 v18) fun v19 => bn (pRc 6 r16) fun b20 => bn (F_X6_init b20 x2 x3 v19) fun _ => bn (pRc 13 x1) fun b21 => bn (F_Jx4a65c_add_9ea2d b21 r16) fun v22 => rt ()
theorem c_ruleRead {b L q n : Nat} {tp : Nat → Int32} {x : q_Lx} {μ : Mem} {Q : Unit → Mem → Prop} (hA : AdvOK b tp L x) (hx : xOK x L) (hE : q_Env μ b tp L) (h : rSt μ b x L q) (hn : (q_lst μ (b + 5)).length = n) (hn30 : n ≤ 30)
    (hok : ∀ u ν, pRul x n q = .ok u → q_Env ν b tp L → Md PT' μ ν → rSt ν b x L u.1 → mI ν 266 (b + 1) = q_i3 u.2.2.2.2.2.1.length → (∀ i, i < u.2.2.2.2.2.1.length → aI ν 120 (b + 3) i = u.2.2.2.2.2.1.getD i 0) → q_wp (ruleTail b (some (b + 5)) u.2.1 u.2.2.1) ν Q)
    (her : ∀ e ν, pRul x n q = .error e → q_Env ν b tp L → Md PT' μ ν → CBr ν b e → Q () ν) : q_wp (F_X4_readRule (b + 1) (some (b + 5))) μ Q := by
  have hk : mI μ (64 * 4 + 6) (b + 1) = lxk x q := h.1.2.2.1
  have bTail : ∀ (y2 y3 : Int32), q_Bk b tp L (bn (gI 4 6 (some (b + 1))) fun v15 => if v15 = (18 : Int32) then rt () else ruleTail b (some (b + 5)) y2 y3) := fun y2 y3 => by
    refine Bk_kind ?_
    rw [if_pos rfl]; exact Bk_rt
  have b59 : ∀ y2 y3, q_Bk b tp L (bn (pRc 4 (some (b + 1))) fun b14 => bn (F_X4_readOnly b14 (59 : Int32)) fun _ => bn (gI 4 6 (some (b + 1))) fun v15 => if v15 = (18 : Int32) then rt () else ruleTail b (some (b + 5)) y2 y3) := fun y2 y3 => Bk_call (P := fun b14 => F_X4_readOnly b14 59) (Bk_only (by decide)) (bTail y2 y3)
  have c59 : ∀ y2 y3, Brk b tp L (bn (pRc 4 (some (b + 1))) fun b14 => bn (F_X4_readOnly b14 (59 : Int32)) fun _ => bn (gI 4 6 (some (b + 1))) fun v15 => if v15 = (18 : Int32) then rt () else ruleTail b (some (b + 5)) y2 y3) := fun y2 y3 => Brk_call (P := fun b14 => F_X4_readOnly b14 59) (Brk_only (by decide)) (by refine Brk_kind ?_; rw [if_pos rfl]; exact Brk_rt)
  have bex : ∀ y2 y3, q_Bk b tp L (bn (wI 4 8 (some (b + 1)) (0 : Int32)) fun _ => bn (wI 4 10 (some (b + 1)) (0 : Int32)) fun _ => bn (pRc 4 (some (b + 1))) fun b13 => bn (F_X4_readExpr b13 (0 : Int32)) fun _ => bn (pRc 4 (some (b + 1))) fun b14 => bn (F_X4_readOnly b14 (59 : Int32)) fun _ => bn (gI 4 6 (some (b + 1))) fun v15 => if v15 = (18 : Int32) then rt () else ruleTail b (some (b + 5)) y2 y3) := fun y2 y3 => Bk_w8 (Bk_w10 (Brk_call (P := fun b13 => F_X4_readExpr b13 0) (bE b L tp 95 0) (c59 y2 y3)))
  have b13 : ∀ y2 y3, q_Bk b tp L (bn (pRc 4 (some (b + 1))) fun b12 => bn (F_X4_readOnly b12 (13 : Int32)) fun _ => bn (wI 4 8 (some (b + 1)) (0 : Int32)) fun _ => bn (wI 4 10 (some (b + 1)) (0 : Int32)) fun _ => bn (pRc 4 (some (b + 1))) fun b13 => bn (F_X4_readExpr b13 (0 : Int32)) fun _ => bn (pRc 4 (some (b + 1))) fun b14 => bn (F_X4_readOnly b14 (59 : Int32)) fun _ => bn (gI 4 6 (some (b + 1))) fun v15 => if v15 = (18 : Int32) then rt () else ruleTail b (some (b + 5)) y2 y3) := fun y2 y3 => Bk_call (P := fun b12 => F_X4_readOnly b12 13) (Bk_only (by decide)) (bex y2 y3)
  have b11 : ∀ y2 y3, q_Bk b tp L (bn (pRc 4 (some (b + 1))) fun b11 => bn (F_X4_advance b11) fun _ => bn (pRc 4 (some (b + 1))) fun b12 => bn (F_X4_readOnly b12 (13 : Int32)) fun _ => bn (wI 4 8 (some (b + 1)) (0 : Int32)) fun _ => bn (wI 4 10 (some (b + 1)) (0 : Int32)) fun _ => bn (pRc 4 (some (b + 1))) fun b13 => bn (F_X4_readExpr b13 (0 : Int32)) fun _ => bn (pRc 4 (some (b + 1))) fun b14 => bn (F_X4_readOnly b14 (59 : Int32)) fun _ => bn (gI 4 6 (some (b + 1))) fun v15 => if v15 = (18 : Int32) then rt () else ruleTail b (some (b + 5)) y2 y3) := fun y2 y3 => Bk_call (P := fun b11 => F_X4_advance b11) Bk_adv (b13 y2 y3)
  have b77 : ∀ y2 y3 y, q_Bk b tp L (F_X4_readRule_L77 (b + 1) (some (b + 5)) y2 y3 y (some (b + 1))) := fun y2 y3 y => by
    unfold F_X4_readRule_L77
    exact Bk_call (P := fun b10 => F_X4_refuseIf b10 y 2) Bk_ref (b11 y2 y3)
  have b7 : ∀ y2, q_Bk b tp L (bn (gI 4 7 (some (b + 1))) fun v8 => bn (gI 4 6 (some (b + 1))) fun v9 => if ¬ v9 = (16 : Int32) then F_X4_readRule_L72 (b + 1) (some (b + 5)) y2 v8 (some (b + 1)) else if v8 ≤ (150 : Int32) then F_X4_readRule_L77 (b + 1) (some (b + 5)) y2 v8 (0 : Int32) (some (b + 1)) else F_X4_readRule_L72 (b + 1) (some (b + 5)) y2 v8 (some (b + 1))) := fun y2 => Bk_num fun v => by
    refine Bk_kind ?_
    rw [if_pos (by decide)]
    exact b77 y2 v 1
  have b6 : ∀ y2, q_Bk b tp L (bn (pRc 4 (some (b + 1))) fun b6 => bn (F_X4_advance b6) fun _ => bn (pRc 4 (some (b + 1))) fun b7 => bn (F_X4_readOnly b7 (12 : Int32)) fun _ => bn (gI 4 7 (some (b + 1))) fun v8 => bn (gI 4 6 (some (b + 1))) fun v9 => if ¬ v9 = (16 : Int32) then F_X4_readRule_L72 (b + 1) (some (b + 5)) y2 v8 (some (b + 1)) else if v8 ≤ (150 : Int32) then F_X4_readRule_L77 (b + 1) (some (b + 5)) y2 v8 (0 : Int32) (some (b + 1)) else F_X4_readRule_L72 (b + 1) (some (b + 5)) y2 v8 (some (b + 1))) := fun y2 => Bk_call (P := fun b6 => F_X4_advance b6) Bk_adv (Bk_call (P := fun b7 => F_X4_readOnly b7 12) (Bk_only (by decide)) (b7 y2))
  have b36 : ∀ y2 y, q_Bk b tp L (F_X4_readRule_L36 (b + 1) (some (b + 5)) y2 y (some (b + 1))) := fun y2 y => by
    unfold F_X4_readRule_L36
    exact Bk_call (P := fun b5 => F_X4_refuseIf b5 y 4) Bk_ref (b6 y2)
  unfold F_X4_readRule F_X4_readRule_L17
  rw [wp_bn, xgI4 hE.1, hk, wp_ite]
  by_cases e6 : lxk x q < 6
  rotate_left
  · have er : pRul x n q = .error (2, lxf x q) := by unfold pRul; rw [if_pos e6]
    rw [if_neg e6, wp_bn, xpR4 hE.1]
    refine kR hx hE h ?_ (fun ν h1 h2 h3 => her _ ν er h1 h2 h3)
    intro ν e hE1 hB
    rw [wp_bn, xpL_5 hE1.1, wp_bn, wp_eq (ls_size hE1.2.1 (hE1.1.k 5 14 (by decide))), wp_ite]
    split
    · exact b36 _ 0 ν e hE1 hB
    · exact b36 _ 1 ν e hE1 hB
  rw [if_pos e6, wp_bn, xpR4 hE.1, wp_bn, wp_eq c_ref0, wp_bn, xpL_5 hE.1, wp_bn, wp_eq (ls_size hE.2.1 (hE.1.k 5 14 (by decide))), hn, wp_ite]
  have hlt : q_i3 n < 30 ↔ n < 30 := i3_lt (b := 30) (by omega) (by omega)
  unfold F_X4_readRule_L36
  by_cases h30 : n < 30
  rotate_left
  · have er : pRul x n q = .error (4, lxf x q) := by unfold pRul; rw [if_neg (fun z => z e6), if_pos (by omega)]
    rw [if_neg (fun z => h30 (hlt.mp z)), wp_bn, xpR4 hE.1]
    exact kR hx hE h (b6 _) (fun ν h1 h2 h3 => her _ ν er h1 h2 h3)
  rw [if_pos (hlt.mpr h30), wp_bn, xpR4 hE.1, wp_bn, wp_eq c_ref0, wp_bn, xpR4 hE.1]
  have e0 : pRul x n q = thn (adE x q) fun q1 => if lxk x q1 = 12 then thn (adE x q1) fun q2 => if lxk x q2 = 16 ∧ lxv x q2 ≤ 150 then thn (adE x q2) fun q3 => if lxk x q3 = 13 then thn (adE x q3) fun q_q4 => thn ((pLv x 12).1 q_q4 0) fun r => if lxk x r.1 = 59 then thn (adE x r.1) fun q6 => .ok (q6, lxk x q, lxv x q2, r) else .error (2, lxf x r.1) else .error (2, lxf x q3) else .error (2, lxf x q2) else .error (2, lxf x q1) := by
    unfold pRul; rw [if_neg (fun z => z e6), if_neg (by omega)]
  rw [e0] at hok her
  clear e0
  refine q_kA hA hx hE h (Bk_call (P := fun b7 => F_X4_readOnly b7 12) (Bk_only (by decide)) (b7 _)) ?_ (fun e ν h1 h2 h3 h4 => her e ν (by rw [h1]; rfl) h2 h3 h4)
  intro ν1 a1 E1 m1 s1
  rw [a1, thn_go] at hok her
  rw [wp_bn, xpR4 E1.1]
  refine kO hA hx E1 s1 (b7 _) ?_ ?_
  rotate_left
  · intro e ν h1 h2 h3 h4 h5
    refine her e ν ?_ h3 ((m1.tr h4).wk rfl) h5
    by_cases ec : lxk x (lxn x q) = 12
    · rw [if_pos ec, h1 ec]; rfl
    · rw [if_neg ec, h2 ec]
  intro ν2 c2 a2 E2 m2 s2
  have m12 := (m1.tr m2).wk (T := PT') rfl
  rw [if_pos c2, a2, thn_go] at hok her
  generalize hq2 : lxn x (lxn x q) = q2 at *
  rw [wp_bn, xgI4 E2.1, wp_bn, xgI4 E2.1, show mI ν2 (64 * 4 + 6) (b + 1) = lxk x q2 from s2.1.2.2.1, wp_ite]
  unfold F_X4_readRule_L72 F_X4_readRule_L77
  by_cases e16 : lxk x q2 = 16
  rotate_left
  · rw [if_pos e16, wp_bn, xpR4 E2.1]
    rw [if_neg (fun z => e16 z.1)] at her
    exact kR hx E2 s2 (b11 _ _) (fun ν h1 h2 h3 => her _ ν rfl h1 ((m12.tr h2).wk rfl) h3)
  rw [if_neg (fun z => z e16), show mI ν2 (64 * 4 + 7) (b + 1) = lxv x q2 from s2.1.2.2.2.1 e16, wp_ite]
  by_cases e150 : lxv x q2 ≤ 150
  rotate_left
  · rw [if_neg e150, wp_bn, xpR4 E2.1]
    rw [if_neg (fun z => e150 z.2)] at her
    exact kR hx E2 s2 (b11 _ _) (fun ν h1 h2 h3 => her _ ν rfl h1 ((m12.tr h2).wk rfl) h3)
  rw [if_pos ⟨e16, e150⟩] at hok her
  rw [if_pos e150, wp_bn, xpR4 E2.1, wp_bn, wp_eq c_ref0, wp_bn, xpR4 E2.1]
  refine q_kA hA hx E2 s2 (b13 _ _) ?_ (fun e ν h1 h2 h3 h4 => her e ν (by rw [h1]; rfl) h2 ((m12.tr h3).wk rfl) h4)
  intro ν3 a3 E3 m3 s3
  have m13 := (m12.tr m3).wk (T := PT') rfl
  rw [a3, thn_go] at hok her
  rw [wp_bn, xpR4 E3.1]
  refine kO hA hx E3 s3 (bex _ _) ?_ ?_
  rotate_left
  · intro e ν h1 h2 h3 h4 h5
    refine her e ν ?_ h3 ((m13.tr h4).wk rfl) h5
    by_cases ec : lxk x (lxn x q2) = 13
    · rw [if_pos ec, h1 ec]; rfl
    · rw [if_neg ec, h2 ec]
  intro ν4 c4 a4 E4 m4 s4
  have m14 := (m13.tr m4).wk (T := PT') rfl
  rw [if_pos c4, a4, thn_go] at hok her
  generalize hq4 : lxn x (lxn x q2) = q_q4 at *
  rw [wp_bn, xwI4 E4.1]
  have w1 : Md [264] ν4 (sI ν4 (64 * 4 + 8) (b + 1) 0) := Md.sI (by rw [kk4 E4.1]; omega)
  have E5 := E4.md w1 rfl
  rw [wp_bn, xwI4 E5.1]
  have w2 : Md [266] (sI ν4 (64 * 4 + 8) (b + 1) 0) (sI (sI ν4 (64 * 4 + 8) (b + 1) 0) (64 * 4 + 10) (b + 1) 0) := Md.sI (by rw [kk4 E5.1]; omega)
  have E6 := E5.md w2 rfl
  obtain ⟨ν6, e6'⟩ : ∃ ν6, ν6 = sI (sI ν4 (64 * 4 + 8) (b + 1) 0) (64 * 4 + 10) (b + 1) 0 := ⟨_, rfl⟩
  have h264 : mI ν6 264 (b + 1) = q_i3 0 := by rw [e6', mI_sI', if_neg (fun z => absurd z.1 (by omega)), mI_sI', if_pos ⟨rfl, rfl⟩]; rfl
  have h266 : mI ν6 266 (b + 1) = q_i3 0 := by rw [e6', mI_sI', if_pos ⟨rfl, rfl⟩]; rfl
  have w12 : Md [264, 266] ν4 ν6 := by rw [e6']; exact (w1.tr w2).wk rfl
  rw [← e6'] at E6 ⊢
  obtain ⟨t1, t2, t3, t4, t5, t6⟩ := s4.1
  have S6 : cSt ν6 b x L q_q4 0 [] := ⟨⟨by rw [w12.1.i 260 rfl]; exact t1, by rw [w12.1.i 261 rfl]; exact t2, by rw [w12.1.i 262 rfl]; exact t3, by rw [w12.1.i 263 rfl]; exact t4, by rw [w12.1.i 258 rfl]; exact t5, by rw [w12.1.i 259 rfl]; exact t6⟩, s4.2.1, s4.2.2, h264, h266, fun i hi => absurd hi (Nat.not_lt_zero _), Nat.le_refl _, by omega⟩
  rw [wp_bn, xpR4 E6.1, wp_bn]
  have hex := (c_lv hA hx 12 (by omega)).2 100 (by omega) ν6 q_q4 0 [] E6 S6
  refine q_wp_mono hex ?_
  rintro _ ν7 ⟨m7, g7, g8⟩
  have E7 := E6.md m7 rfl
  have m17 := ((m14.tr w12).tr m7).wk (T := PT') rfl
  cases hr : (pLv x 12).1 q_q4 0 with
  | error er =>
    refine q_wp_mono (b59 _ _ ν7 er E7 (g8 er hr).1) ?_
    rintro _ ρ ⟨m8, c8⟩
    exact her er ρ (by rw [hr]; rfl) (E7.md m8 rfl) ((m17.tr m8).wk rfl) c8
  | ok r =>
    have S7 := g7 r hr
    rw [List.nil_append] at S7
    rw [hr, thn_go] at hok her
    have s7 : rSt ν7 b x L r.1 := ⟨S7.1, S7.2.1, S7.2.2.1⟩
    rw [wp_bn, xpR4 E7.1]
    refine kO hA hx E7 s7 (bTail _ _) ?_ ?_
    rotate_left
    · intro e ν h1 h2 h3 h4 h5
      refine her e ν ?_ h3 ((m17.tr h4).wk rfl) h5
      by_cases ec : lxk x r.1 = 59
      · rw [if_pos ec, h1 ec]; rfl
      · rw [if_neg ec, h2 ec]
    intro ν8 c8 a8 E8 m8 s8
    rw [if_pos c8, a8, thn_go] at hok
    have h8 : mI ν8 (64 * 4 + 6) (b + 1) = lxk x (lxn x r.1) := s8.1.2.2.1
    rw [wp_bn, xgI4 E8.1, h8, wp_ite, if_neg (xk18 hx s8.2.2)]
    exact hok (lxn x r.1, lxk x q, lxv x q2, r) ν8 rfl E8 ((m17.tr m8).wk rfl) s8 (by rw [m8.1.i 266 rfl]; exact S7.2.2.2.2.1) (by rw [m8.1.ai 120 rfl]; exact S7.2.2.2.2.2.1)

theorem Nw.md {S : List Nat} {μ ν ρ : Mem} (h : Nw μ ν) (m : Md S ν ρ) (hS : S.contains 834 = false) : Nw μ ρ := by
  obtain ⟨w, l⟩ := m.wf h.1 hS
  exact ⟨w, by rw [l]; exact h.2.1, fun a ha => h.2.2 a (by rw [m.2.2.1] at ha; exact ha)⟩
theorem c_copyOf {μ : Mem} {b n : Nat} (hK : K0 μ b) (hW : WF μ) (hn : n ≤ 60) : q_wp (F_J7_copyOf_59c91 (some (b + 3)) (q_i3 n)) μ (fun r ν => r = some (mX μ) ∧ Nw μ ν ∧ q_Fr [2128] μ ν ∧ mK ν (mX μ) = 128 ∧ mN ν (mX μ) = n ∧ (∀ i, i < n → aI ν 128 (mX μ) i = aI μ 120 (b + 3) i) ∧ (∀ a, a ≠ mX μ → aI ν 128 a = aI μ 128 a) ∧ mX ν = mX μ + 1 ∧ mS ν = mS μ + n) := by
  have k3 : mK μ (b + 3) = 120 := hK.k 3 120 (by decide)
  have n3 : mN μ (b + 3) = 60 := hK.n 3 60 (by decide)
  have hz := hW.z
  have hne : b + 3 ≠ mX μ := by have := hz.lt (a := b + 3) (by omega); omega
  unfold F_J7_copyOf_59c91
  rw [wp_bn, wp_len, if_neg (tt_ne hW.2.1 (by rw [k3]; omega)), k3, n3]
  refine ⟨by omega, ?_⟩
  rw [show Int32.ofNat 60 = q_i3 60 from rfl, wp_ite]
  by_cases h : n = 60
  · rw [if_neg (fun z => z (by rw [h])), wp_bn]
    unfold clI
    rw [wp_bn, wp_pArr]
    refine ⟨k3, ?_⟩
    rw [show q_wp (fun μ => some (some (mX μ), clA 120 (b + 3) 128 μ)) μ = q_wp (fun μ => some ((fun μ => some (mX μ)) μ, (fun μ => clA 120 (b + 3) 128 μ) μ)) μ from rfl, wp_fn]
    have kx : mK (clA 120 (b + 3) 128 μ) (mX μ) = 128 := by show (if mX μ = mX μ then 128 else _) = 128; rw [if_pos rfl]
    rw [wp_bn, wp_pArr]
    refine ⟨kx, ?_⟩
    rw [wp_rt]
    have z := hz (mX μ) (Nat.le_refl _)
    have fr : q_Fr [2128] μ (clA 120 (b + 3) 128 μ) := by
      refine ⟨fun f _ => ⟨rfl, rfl, rfl⟩, fun k hk => ⟨?_, ?_, ?_⟩, rfl, fun a ha => ?_, Nat.le_succ _, Nat.le_add_right _ _⟩
      · funext a i
        show (if a = mX μ then (if k = 128 then aI μ 120 (b + 3) i else 0) else aI μ k a i) = aI μ k a i
        have : k ≠ 128 := fun q => nm1 hk (by rw [q])
        by_cases e : a = mX μ
        · rw [if_pos e, if_neg this, e]; exact (z.2.2.2.1 k i).symm
        · rw [if_neg e]
      · funext a i
        show (if a = mX μ then 0 else aL μ k a i) = aL μ k a i
        by_cases e : a = mX μ
        · rw [if_pos e, e]; exact (z.2.2.2.2.1 k i).symm
        · rw [if_neg e]
      · funext a i
        show (if a = mX μ then none else aP μ k a i) = aP μ k a i
        by_cases e : a = mX μ
        · rw [if_pos e, e]; exact (z.2.2.2.2.2.1 k i).symm
        · rw [if_neg e]
      · have e : a ≠ mX μ := by have := hz.lt ha; omega
        exact ⟨by show (if a = mX μ then 128 else mK μ a) = _; rw [if_neg e], by show (if a = mX μ then mN μ (b + 3) else mN μ a) = _; rw [if_neg e]⟩
    have zz : Zz (clA 120 (b + 3) 128 μ) := by
      intro a ha
      have ha : mX μ + 1 ≤ a := ha
      obtain ⟨z1, z2, z3, z4, z5, z6, z7, z8⟩ := hz a (by omega)
      have e : a ≠ mX μ := by omega
      refine ⟨z1, z2, z3, fun k i => ?_, fun k i => ?_, fun k i => ?_, ?_, ?_⟩
      · show (if a = mX μ then _ else aI μ k a i) = 0; rw [if_neg e]; exact z4 k i
      · show (if a = mX μ then _ else aL μ k a i) = 0; rw [if_neg e]; exact z5 k i
      · show (if a = mX μ then _ else aP μ k a i) = none; rw [if_neg e]; exact z6 k i
      · show (if a = mX μ then _ else mK μ a) = 0; rw [if_neg e]; exact z7
      · show (if a = mX μ then _ else mN μ a) = 0; rw [if_neg e]; exact z8
    have k14 : ∀ a, mK (clA 120 (b + 3) 128 μ) a = 14 → mK μ a = 14 := fun a ha => by
      have ha : (if a = mX μ then 128 else mK μ a) = 14 := ha
      split at ha
      · omega
      · exact ha
    obtain ⟨w, l⟩ := hW.fr fr zz k14 (fun t _ h2 h3 => by show (if t = mX μ then 128 else mK μ t) = 0; rw [if_neg (by omega)]; exact h3) rfl rfl rfl
    refine ⟨rfl, ⟨w, l, k14⟩, fr, kx, ?_, fun i _ => ?_, fun a ha => ?_, rfl, ?_⟩
    · show (if mX μ = mX μ then mN μ (b + 3) else _) = n; rw [if_pos rfl, n3, h]
    · show (if mX μ = mX μ then (if 128 = 128 then aI μ 120 (b + 3) i else 0) else _) = _; rw [if_pos rfl, if_pos rfl]
    · funext i; show (if a = mX μ then _ else aI μ 128 a i) = _; rw [if_neg ha]
    · show mS μ + mN μ (b + 3) = _; rw [n3, h]
  · rw [if_pos (fun z => h ((i3_eq (by omega) (by omega)).mp z)), wp_bn, wp_newA hz (by omega)]
    have n1 := (Nw.rf hW).al 128 n n (by omega)
    have k1 : mK (q_al 128 n n μ) (b + 3) = 120 := by rw [mK_al, if_neg hne]; exact k3
    have m1 : mN (q_al 128 n n μ) (b + 3) = 60 := by rw [mN_al, if_neg hne]; exact n3
    have kx : mK (q_al 128 n n μ) (mX μ) = 128 := by rw [mK_al, if_pos rfl]
    have nx' : mN (q_al 128 n n μ) (mX μ) = n := by rw [mN_al, if_pos rfl]
    rw [wp_bn, wp_len, if_neg (tt_ne n1.1.2.1 (by rw [k1]; omega)), k1, m1]
    refine ⟨by omega, ?_⟩
    have e0 : (if q_i3 n < Int32.ofNat 60 then q_i3 n else Int32.ofNat 60) = q_i3 n := by rw [show Int32.ofNat 60 = q_i3 60 from rfl, if_pos ((i3_lt (by omega) (by omega)).mpr (by omega))]
    rw [e0, wp_bn]
    refine wp_cpyI (i := 0) (j := 0) (by omega) (by omega) (by omega) k1 kx (by rw [m1]; omega) (by rw [nx']; omega) ?_
    rw [wp_rt]
    have md : Md [2128] (q_al 128 n n μ) (cpI (q_al 128 n n μ) 120 (b + 3) 0 128 (mX μ) 0 n) := (Md.cpI (by rw [kx]; omega)).wk rfl
    refine ⟨rfl, n1.md md rfl, ((q_Fr.nw hz 128 n n).tr md.1).wk rfl, ?_, ?_, fun i hi => ?_, fun a ha => ?_, rfl, rfl⟩
    · rw [md.2.2.1]; exact kx
    · rw [md.2.2.2.1]; exact nx'
    · rw [aI_cpI, if_pos ⟨rfl, rfl⟩]; unfold va_cpy
      rw [if_pos (by omega), aI_al]; congr 1; omega
    · funext i; rw [aI_cpI, if_neg (fun z => ha z.2)]; rfl
def RTS : List Nat := [384, 385, 386, 2128, 832, 833, 834, 2372]
theorem DenC.of {ν : Mem} {b e : Nat} {cd : List Int32} {val : q_Val} (hk : mK ν e = 128) (hn : mN ν e = cd.length) (h60 : cd.length ≤ 60) (hcd : ∀ i, i < cd.length → aI ν 128 e i = cd.getD i 0) (hv : ∀ w st, q_runC w cd st = val w :: st) : DenC ν b e val := by
  refine ⟨hk, by omega, fun ρ K T k n a => ?_⟩
  refine q_wp_mono (c_work K T k (n.trans hn) h60 (fun i hi => by rw [a]; exact hcd i hi)) ?_
  rintro r σ ⟨rfl, m⟩
  refine ⟨?_, m⟩
  rw [hv]; rfl
theorem c_ruleTail {μ : Mem} {b : Nat} {U : List q_Ru} {cd : List Int32} {nm fm : Int32} {val : q_Val} (hK : K0 μ b) (hW : WF μ) (hU : CU μ b U) (hU30 : U.length < 30) (h266 : mI μ 266 (b + 1) = q_i3 cd.length) (h60 : cd.length ≤ 60) (hcd : ∀ i, i < cd.length → aI μ 120 (b + 3) i = cd.getD i 0) (hv : ∀ w st, q_runC w cd st = val w :: st) : q_wp (ruleTail b (some (b + 5)) nm fm) μ (fun _ ρ => CU ρ b (U ++ [(nm, fm, val)]) ∧ Cs RTS [5] 3 130 b μ ρ) := by
  unfold ruleTail
  have hz := hW.z
  obtain ⟨r, hr⟩ : ∃ r, r = mX μ := ⟨_, rfl⟩
  rw [wp_bn, wp_newO hz, ← hr]
  have n1 := (Nw.rf hW).al 7 0 3 (by omega)
  have K1 : K0 (q_al (6 + 1) 0 3 μ) b := hK.fr (q_Fr.nw hz 7 0 3) rfl
  have kr1 : mK (q_al (6 + 1) 0 3 μ) r = 7 := by rw [mK_al, if_pos hr]
  rw [wp_bn, xgP4_9 K1, wp_bn, xgI4 K1, show mI (q_al (6 + 1) 0 3 μ) (64 * 4 + 10) (b + 1) = q_i3 cd.length from h266, wp_bn]
  refine q_wp_mono (c_copyOf K1 n1.1 h60) ?_
  rintro _ μ2 ⟨rfl, n2, f2, k2, N2, a2, o2, x2, s2⟩
  have x1 : mX (q_al (6 + 1) 0 3 μ) = r + 1 := by rw [mX_al, hr]
  rw [x1] at k2 N2 a2 o2 x2 ⊢
  have n12 : Nw μ μ2 := ⟨n2.1, by rw [n2.2.1]; exact n1.2.1, fun a ha => n1.2.2 a (n2.2.2 a ha)⟩
  have kr2 : mK μ2 r = 7 := f2.k kr1 (by omega)
  rw [wp_bn, wp_pRc]
  refine ⟨kr2, ?_⟩
  unfold F_X6_init
  simp only [wp_bn, wp_wI, wp_wP, wp_rt, Nat.reduceMul, Nat.reduceAdd]
  refine ⟨kr2, kr2, kr2, ?_⟩
  have n3 := ((n12.sI (f := 384) (a := r) (v := nm) (by omega) (by omega)).sI (f := 385) (a := r) (v := fm) (by show mK μ2 r ≠ 0; omega) (by omega)).sP (f := 386) (a := r) (v := some (r + 1)) (by show mK μ2 r ≠ 0; omega) (by omega)
  obtain ⟨μ3, e3⟩ : ∃ μ3, μ3 = sP (sI (sI μ2 384 r nm) 385 r fm) 386 r (some (r + 1)) := ⟨_, rfl⟩
  have f3 : q_Fr [384, 385, 386, 2128] μ μ3 := by rw [e3]; exact (((((q_Fr.nw hz 7 0 3).tr f2).tr (q_Fr.sI _ 384 r _)).tr (q_Fr.sI _ 385 r _)).tr (q_Fr.sP _ 386 r _)).wk rfl
  rw [← e3] at n3 ⊢
  have K3 : K0 μ3 b := hK.fr f3 rfl
  rw [wp_pRc]
  refine ⟨K3.k 5 14 (by decide), ?_⟩
  have kr3 : mK μ3 r = 7 := by rw [e3]; exact kr2
  have l3 : q_lst μ3 (b + 5) = q_lst μ (b + 5) := by rw [n3.2.1]
  have lU : (q_lst μ (b + 5)).length = U.length := hU.1
  refine q_wp_mono (ls_add n3.1 (K3.k 5 14 (by decide)) (by omega) (n3.nin hW (by omega)) (by rw [l3]; omega)) ?_
  rintro _ ρ ⟨_, u⟩
  have hC3 : Cs [384, 385, 386, 2128] [] 2 (3 + cd.length) b μ μ3 := n3.cs f3 (by rw [e3]; show mX μ2 ≤ _; rw [x2, hr]; omega) (by rw [e3]; show mS μ2 ≤ _; rw [s2, mS_al]; omega)
  have hCu := u.cs K3
  rw [l3] at u hCu
  have hC := (hC3.tr hCu).wk (T := RTS) (N := [5]) (y := 3) (t := 130) rfl rfl (by omega) (by rw [lU]; omega)
  refine ⟨?_, hC⟩
  have l4 : q_lst ρ (b + 5) = q_lst μ (b + 5) ++ [r] := u.2.2.1
  obtain ⟨h1, h0, h2⟩ := hU
  have fu := u.2.1
  have kx : ∀ a, mK μ a ≠ 0 → a < r := fun a ha => by have := hz.lt ha; omega
  have i3' : ∀ t a, a ≠ r → t = 384 ∨ t = 385 → mI μ3 t a = mI μ t a := by
    intro t a ha ht
    have : mI μ2 t = mI μ t := by
      have := (f2.1 t (by rcases ht with rfl | rfl <;> decide)).1
      rw [this]; rfl
    rw [e3, mI_sP, mI_sI', if_neg (fun z => ha z.2), mI_sI', if_neg (fun z => ha z.2), this]
  have p3' : ∀ a, a ≠ r → mP μ3 386 a = mP μ 386 a := by
    intro a ha
    have : mP μ2 386 = mP μ 386 := by rw [f2.p 386 rfl]; rfl
    rw [e3, mP_sP', if_neg (fun z => ha z.2), mP_sI, mP_sI, this]
  refine ⟨by rw [l4, List.length_append, List.length_append, h1]; rfl, by rw [List.length_append]; show U.length + 1 ≤ 30; omega, fun k hk => ?_⟩
  rw [List.length_append, List.length_singleton] at hk
  by_cases ek : k < U.length
  · obtain ⟨g1, g2, g3, e, g4, d1, d2, d3⟩ := h2 k ek
    have er : rl ρ b k = rl μ b k := by unfold rl; rw [l4, getD_app1 (by omega)]
    have eg : (U ++ [(nm, fm, val)]).getD k r0 = U.getD k r0 := by simp only [List.getD_eq_getElem?_getD]; rw [List.getElem?_append_left ek]
    have hne : rl μ b k ≠ r := by have := kx (rl μ b k) (by omega); omega
    have hne2 : e ≠ r + 1 := by have := kx e (by omega); omega
    rw [er, eg]
    refine ⟨hC.2.1.k g1 (by omega), by rw [fu.i 384 rfl, i3' 384 _ hne (Or.inl rfl)]; exact g2, by rw [fu.i 385 rfl, i3' 385 _ hne (Or.inr rfl)]; exact g3, e, by rw [fu.p 386 rfl, p3' _ hne]; exact g4, hC.2.1.k d1 (by omega), by rw [hC.2.1.n (by omega) rfl]; exact d2, fun σ q1 qt q2 q3 q_q4 => d3 σ q1 qt q2 ?_ ?_⟩
    · rw [q3]; exact hC.2.1.n (by omega) rfl
    · rw [q_q4, fu.ai 128 rfl, e3]
      show aI μ2 128 e = aI μ 128 e
      rw [o2 e hne2]; rfl
  · have ek' : k = U.length := by omega
    have er : rl ρ b k = r := by unfold rl; rw [l4, ek', ← lU, getD_app2]
    have eg : (U ++ [(nm, fm, val)]).getD k r0 = (nm, fm, val) := by rw [ek']; simp
    rw [er, eg]
    have w384 : mI μ3 384 r = nm := by rw [e3, mI_sP, mI_sI', if_neg (fun z => absurd z.1 (by omega)), mI_sI', if_pos ⟨rfl, rfl⟩]
    have w385 : mI μ3 385 r = fm := by rw [e3, mI_sP, mI_sI', if_pos ⟨rfl, rfl⟩]
    have w386 : mP μ3 386 r = some (r + 1) := by rw [e3, mP_sP', if_pos ⟨rfl, rfl⟩]
    have ke3 : mK μ3 (r + 1) = 128 := by rw [e3]; exact k2
    have ne3 : mN μ3 (r + 1) = cd.length := by rw [e3]; exact N2
    refine ⟨fu.k kr3 (by omega), by rw [fu.i 384 rfl]; exact w384, by rw [fu.i 385 rfl]; exact w385, r + 1, by rw [fu.p 386 rfl]; exact w386, DenC.of (fu.k ke3 (by omega)) (by rw [fu.n (by omega) rfl]; exact ne3) h60 (fun i hi => ?_) hv⟩
    rw [fu.ai 128 rfl, e3]
    show aI μ2 128 (r + 1) i = _
    rw [a2 i hi]; exact hcd i hi

def NZ {α : Type} (r : Except q_Er α) : Prop := ∀ e, r = .error e → e.1 ≠ 0
theorem NZ.thn {α β : Type} {r : Except q_Er α} {f : α → Except q_Er β} (h1 : NZ r) (h2 : ∀ a, NZ (f a)) : NZ (thn r f) := by
  intro e h
  cases r with
  | error e' => cases h; exact h1 _ rfl
  | ok a => exact h2 a e h
theorem NZ.ok {α : Type} {a : α} : NZ (.ok a : Except q_Er α) := fun e h => by cases h
theorem NZ.er {α : Type} {k : Int32} {p : Nat} (h : k ≠ 0) : NZ (.error (k, p) : Except q_Er α) := fun e he => by cases he; exact h
theorem NZ.ite {α : Type} {c : Prop} [Decidable c] {r1 r2 : Except q_Er α} (h1 : NZ r1) (h2 : NZ r2) : NZ (if c then r1 else r2) := by split; exact h1; exact h2
theorem adE_nz (x : q_Lx) (q : Nat) : NZ (adE x q) := NZ.ite (NZ.er (by decide)) NZ.ok
theorem tkE_nz (x : q_Lx) (t q : Nat) : NZ (tkE x t q) := NZ.ite (NZ.er (by decide)) (adE_nz x q)
def q_NF (F : Nat → Nat → q_Res) : Prop := ∀ q t, NZ (F q t)
def NO (op : q_Op) : Prop := ∀ EF, op = some EF → q_NF EF.1 ∧ q_NF EF.2
theorem fac_nz {x : q_Lx} {op : q_Op} (h : NO op) : q_NF (pFac x op) := by
  intro q t
  unfold pFac
  refine NZ.ite ((tkE_nz _ _ _).thn fun _ => NZ.ok) (NZ.ite ((tkE_nz _ _ _).thn fun _ => NZ.ok) (NZ.ite ?_ (NZ.ite ?_ (NZ.ite ?_ (NZ.er (by decide))))))
  · unfold pNg
    cases op with
    | none => exact NZ.er (by decide)
    | some EF => exact (tkE_nz _ _ _).thn fun _ => ((h EF rfl).2 _ _).thn fun _ => NZ.ok
  · unfold pB1
    cases op with
    | none => exact NZ.er (by decide)
    | some EF => exact (tkE_nz _ _ _).thn fun _ => ((h EF rfl).1 _ _).thn fun _ => NZ.ite ((tkE_nz _ _ _).thn fun _ => NZ.ok) (NZ.er (by decide))
  · unfold pMM pB2
    refine (tkE_nz _ _ _).thn fun _ => NZ.ite ?_ (NZ.er (by decide))
    refine NZ.thn ?_ fun _ => NZ.ok
    cases op with
    | none => exact NZ.er (by decide)
    | some EF => exact (tkE_nz _ _ _).thn fun _ => ((h EF rfl).1 _ _).thn fun _ => NZ.ite ((tkE_nz _ _ _).thn fun _ => ((h EF rfl).1 _ _).thn fun _ => NZ.ite ((tkE_nz _ _ _).thn fun _ => NZ.ok) (NZ.er (by decide))) (NZ.er (by decide))
theorem lp_nz {x : q_Lx} {s1 s2 : Int32} {F : Nat → Nat → q_Res} (h : q_NF F) : ∀ g r, NZ (pLp x s1 s2 F g r)
  | 0, r => NZ.er (by decide)
  | g + 1, r => NZ.ite ((tkE_nz _ _ _).thn fun _ => (h _ _).thn fun _ => lp_nz h g _) NZ.ok
theorem exp_nz {x : q_Lx} {op : q_Op} (h : NO op) : q_NF (pExp x op) := by
  have p : q_NF (pPrt x op) := fun q t => (fac_nz h q t).thn fun _ => lp_nz (fac_nz h) _ _
  have s : q_NF (pSum x op) := fun q t => (p q t).thn fun _ => lp_nz p _ _
  have c : q_NF (pCnd x op) := fun q t => (s q t).thn fun _ => NZ.ite ((tkE_nz _ _ _).thn fun _ => (s _ _).thn fun _ => NZ.ok) NZ.ok
  intro q t
  refine (c q t).thn fun _ => NZ.ite ?_ NZ.ok
  unfold pQ
  cases op with
  | none => exact NZ.er (by decide)
  | some EF => exact (tkE_nz _ _ _).thn fun _ => ((h EF rfl).1 _ _).thn fun _ => NZ.ite ((tkE_nz _ _ _).thn fun _ => ((h EF rfl).1 _ _).thn fun _ => NZ.ok) (NZ.er (by decide))
theorem lv_nz (x : q_Lx) : ∀ d, q_NF (pLv x d).1 ∧ q_NF (pLv x d).2
  | 0 => ⟨exp_nz (fun _ h => (by cases h)), fac_nz (fun _ h => (by cases h))⟩
  | d + 1 => ⟨exp_nz (fun _ h => (by cases h; exact lv_nz x d)), fac_nz (fun _ h => (by cases h; exact lv_nz x d))⟩
theorem rul_nz (x : q_Lx) (n q : Nat) : NZ (pRul x n q) := by
  unfold pRul
  exact NZ.ite (NZ.er (by decide)) (NZ.ite (NZ.er (by decide)) ((adE_nz _ _).thn fun _ => NZ.ite ((adE_nz _ _).thn fun _ => NZ.ite ((adE_nz _ _).thn fun _ => NZ.ite ((adE_nz _ _).thn fun _ => ((lv_nz x 12).1 _ _).thn fun _ => NZ.ite ((adE_nz _ _).thn fun _ => NZ.ok) (NZ.er (by decide))) (NZ.er (by decide))) (NZ.er (by decide))) (NZ.er (by decide))))
def pTx (x : q_Lx) : Nat → Nat → Nat → Except q_Er (List (Int32 × Int32 × q_Pr))
  | 0, _, q => .error (4, lxf x q)
  | g + 1, n, q => if lxk x q = 17 then .ok [] else thn (pRul x n q) fun u => thn (pTx x g (n + 1) u.1) fun l => .ok ((u.2.1, u.2.2.1, u.2.2.2) :: l)
theorem tx_nz (x : q_Lx) : ∀ g n q, NZ (pTx x g n q)
  | 0, n, q => NZ.er (by decide)
  | g + 1, n, q => NZ.ite NZ.ok ((rul_nz x n q).thn fun _ => (tx_nz x g _ _).thn fun _ => NZ.ok)
def ruOf (y : Int32 × Int32 × q_Pr) : q_Ru := (y.1, y.2.1, y.2.2.2.2.2.2)
theorem rul_good {x : q_Lx} (hx : lOK x) {n q : Nat} {u : Nat × Int32 × Int32 × q_Pr} (h : pRul x n q = .ok u) : q_Good x 0 u.2.2.2 ∧ n < 30 := by
  unfold pRul at h
  split at h
  · cases h
  split at h
  · cases h
  rename_i hn
  obtain ⟨q1, _, h⟩ := thn_ok h
  split at h
  rotate_left
  · cases h
  obtain ⟨q2, _, h⟩ := thn_ok h
  split at h
  rotate_left
  · cases h
  obtain ⟨q3, _, h⟩ := thn_ok h
  split at h
  rotate_left
  · cases h
  obtain ⟨q_q4, _, h⟩ := thn_ok h
  obtain ⟨r, hr, h⟩ := thn_ok h
  split at h
  rotate_left
  · cases h
  obtain ⟨q6, _, h⟩ := thn_ok h
  cases h
  exact ⟨(lv_good hx 12).1 _ _ _ hr, by omega⟩
def TXS : List Nat := [258, 259, 260, 261, 262, 263, 264, 266, 2120, 384, 385, 386, 2128, 832, 833, 834, 2372]
theorem q_Env.cs {S Ls : List Nat} {x y : Nat} {μ ν : Mem} {b L : Nat} {tp : Nat → Int32} (h : q_Env μ b tp L) (m : Cs S Ls x y b μ ν) (hS : disj [257, 2115] S = true) (h2 : disj STAT S = true) : q_Env ν b tp L := by
  obtain ⟨h1, h2', h3, h4, h5⟩ := h
  exact ⟨m.k0 h1 h2, m.1, by rw [m.2.1.i 257 (disj_nc hS (by decide))]; exact h3, h4, by rw [m.2.1.ai 115 (disj_nc hS (by decide))]; exact h5⟩
theorem rSt.fr {S : List Nat} {μ ν : Mem} {b L q : Nat} {x : q_Lx} (h : rSt μ b x L q) (f : q_Fr S μ ν) (hS : disj [260, 261, 262, 263, 258, 259] S = true) : rSt ν b x L q := by
  obtain ⟨⟨t1, t2, t3, t4, t5, t6⟩, h2, h3⟩ := h
  exact ⟨⟨by rw [f.i 260 (disj_nc hS (by decide))]; exact t1, by rw [f.i 261 (disj_nc hS (by decide))]; exact t2, by rw [f.i 262 (disj_nc hS (by decide))]; exact t3, by rw [f.i 263 (disj_nc hS (by decide))]; exact t4, by rw [f.i 258 (disj_nc hS (by decide))]; exact t5, by rw [f.i 259 (disj_nc hS (by decide))]; exact t6⟩, h2, h3⟩
theorem c_textL {b L : Nat} {tp : Nat → Int32} {x : q_Lx} {U : List q_Ru} {y2 : Int32} {Q : Int32 → Mem → Prop} (hA : AdvOK b tp L x) (hx : xOK x L) : ∀ (g : Nat) (A : List q_Ru) (k f q : Nat) (μ : Mem), q_Env μ b tp L → rSt μ b x L q → CU μ b (U ++ A) → k + g ≤ 500 → 30 - (U ++ A).length < g → g < f →
    (∀ l ν q', pTx x g (U ++ A).length q = .ok l → q_Env ν b tp L → rSt ν b x L q' → CU ν b (U ++ A ++ l.map ruOf) → l.length + (U ++ A).length ≤ 30 → Cs TXS [5] (3 * l.length) (130 * l.length) b μ ν → q_wp (F_X4_readText_L68 (b + 1) (some (b + 5)) y2) ν Q) →
    (∀ e ν B, pTx x g (U ++ A).length q = .error e → q_Env ν b tp L → CBr ν b e → CU ν b (U ++ A ++ B) → B.length + (U ++ A).length ≤ 30 → Cs TXS [5] (3 * B.length) (130 * B.length) b μ ν → q_wp (F_X4_readText_L68 (b + 1) (some (b + 5)) y2) ν Q) →
    q_wp (F_X4_readText_L32 f (b + 1) (some (b + 5)) y2 (q_i3 k)) μ Q := by
  intro g
  induction g with
  | zero => intro A k f q μ _ _ _ _ h; omega
  | succ g ih =>
    intro A k f q μ hE hS hU hk hg hf hok her
    obtain ⟨f, rfl⟩ : ∃ f', f = f' + 1 := ⟨f - 1, by omega⟩
    have hkd : mI μ (64 * 4 + 6) (b + 1) = lxk x q := hS.1.2.2.1
    have c0 : Cs TXS [5] (3 * 0) (130 * 0) b μ μ := (Cs.rf hE.2.1).wk rfl rfl (by omega) (by omega)
    have hU30 : (U ++ A).length ≤ 30 := hU.2.1
    have eT : pTx x (g + 1) (U ++ A).length q = if lxk x q = 17 then .ok [] else thn (pRul x (U ++ A).length q) fun u => thn (pTx x g ((U ++ A).length + 1) u.1) fun l => .ok ((u.2.1, u.2.2.1, u.2.2.2) :: l) := rfl
    rw [eT] at hok her
    unfold F_X4_readText_L32
    rw [wp_ite, if_neg (fun z => by have := (i3_le (a := 600) (by omega) (by omega)).mp z; omega), wp_bn, xgI4 hE.1, hkd, wp_ite]
    by_cases e17 : lxk x q = 17
    · rw [if_pos e17] at hok ⊢
      exact hok [] μ q rfl hE hS (by rw [List.map_nil, List.append_nil]; exact hU) (by show 0 + _ ≤ 30; omega) c0
    rw [if_neg e17] at hok her ⊢
    rw [wp_bn, xgI4 hE.1, hkd, wp_ite, if_neg (xk18 hx hS.2.2), wp_bn, xpR4 hE.1, wp_bn]
    refine c_ruleRead hA hx hE hS hU.1 hU30 ?_ ?_
    rotate_left
    · intro e ν he E1 m1 B1
      rw [he, thn_er] at her
      rw [i3_1]
      obtain ⟨f, rfl⟩ : ∃ f', f = f' + 1 := ⟨f - 1, by omega⟩
      have hC := (m1.cs (b := b) hE.2.1 rfl).wk (T := TXS) (N := [5]) (y := 3 * 0) (t := 130 * 0) rfl rfl (by omega) (by omega)
      unfold F_X4_readText_L32
      rw [wp_ite, if_neg (fun z => by have := (i3_le (a := 600) (by omega) (by omega)).mp z; omega), wp_bn, xgI4 E1.1, show mI ν (64 * 4 + 6) (b + 1) = 18 from B1.1, wp_ite, if_neg (by decide), wp_bn, xgI4 E1.1, show mI ν (64 * 4 + 6) (b + 1) = 18 from B1.1, wp_ite, if_pos rfl]
      exact her e ν [] rfl E1 B1 (by rw [List.append_nil]; exact hU.fr m1.1 (by rw [(m1.wf hE.2.1 rfl).2]) rfl) (by show 0 + _ ≤ 30; omega) hC
    intro u ν hu E1 m1 s1 h266 hcd
    obtain ⟨⟨a1, a2, a3, a4, a5, a6⟩, hn30⟩ := rul_good hx.1 hu
    rw [hu, thn_go] at hok her
    have U1 : CU ν b (U ++ A) := hU.fr m1.1 (by rw [(m1.wf hE.2.1 rfl).2]) rfl
    refine q_wp_mono (c_ruleTail (nm := u.2.1) (fm := u.2.2.1) (val := u.2.2.2.2.2.2.2) E1.1 E1.2.1 U1 hn30 h266 (by omega) hcd a6) ?_
    rintro _ ρ ⟨U2, C2⟩
    have E2 := E1.cs C2 rfl rfl
    have s2 := s1.fr C2.2.1 rfl
    have C1 := (m1.cs (b := b) hE.2.1 rfl).tr C2
    rw [i3_1]
    have eA : U ++ A ++ [(u.2.1, u.2.2.1, u.2.2.2.2.2.2.2)] = U ++ (A ++ [(u.2.1, u.2.2.1, u.2.2.2.2.2.2.2)]) := List.append_assoc _ _ _
    rw [eA] at U2
    have lA : (U ++ (A ++ [(u.2.1, u.2.2.1, u.2.2.2.2.2.2.2)])).length = (U ++ A).length + 1 := by rw [← eA, List.length_append]; rfl
    refine ih (A ++ [(u.2.1, u.2.2.1, u.2.2.2.2.2.2.2)]) (k + 1) f u.1 ρ E2 s2 U2 (by omega) (by rw [lA]; omega) (by omega) ?_ ?_
    · intro l σ q' hl E3 s3 U3 hb3 C3
      rw [lA] at hl hb3
      rw [hl, thn_go] at hok
      refine hok _ σ q' rfl E3 s3 ?_ ?_ ((C1.tr C3).wk rfl rfl (by rw [List.length_cons]; omega) (by rw [List.length_cons]; omega))
      · rw [← eA] at U3
        show CU σ b (U ++ A ++ (ruOf (u.2.1, u.2.2.1, u.2.2.2) :: l.map ruOf))
        rw [List.append_cons]; exact U3
      · rw [List.length_cons]; omega
    · intro e σ B he E3 B3 U3 hb3 C3
      rw [lA] at he hb3
      rw [he, thn_er] at her
      refine her e σ ((u.2.1, u.2.2.1, u.2.2.2.2.2.2.2) :: B) rfl E3 B3 ?_ (by rw [List.length_cons]; omega) ((C1.tr C3).wk rfl rfl (by rw [List.length_cons]; omega) (by rw [List.length_cons]; omega))
      rw [← eA] at U3
      rw [List.append_cons]; exact U3
theorem c_textDel {b n : Nat} : ∀ (k f : Nat) (μ : Mem), K0 μ b → WF μ → (q_lst μ (b + 5)).length = n + k → n + k ≤ 100 → k < f → q_wp (F_X4_readText_L94 f (some (b + 5)) (q_i3 n) (q_i3 (n + k) - 1)) μ (fun r ν => r = -1 ∧ Cs [832, 833, 834, 2372] [5] k 0 b μ ν ∧ q_lst ν (b + 5) = (q_lst μ (b + 5)).take n) := by
  intro k
  induction k with
  | zero =>
    intro f μ hK hW hl hb hf
    obtain ⟨f, rfl⟩ : ∃ f', f = f' + 1 := ⟨f - 1, by omega⟩
    unfold F_X4_readText_L94
    have : q_i3 (n + 0) - 1 < q_i3 n := by rw [Int32.lt_iff_toInt_lt, sub1 (by omega), i3_toInt (by omega)]; omega
    rw [wp_ite, if_pos this, wp_rt]
    exact ⟨rfl, (Cs.rf hW).wk rfl rfl (by omega) (by omega), by rw [List.take_of_length_le (by omega)]⟩
  | succ k ih =>
    intro f μ hK hW hl hb hf
    obtain ⟨f, rfl⟩ : ∃ f', f = f' + 1 := ⟨f - 1, by omega⟩
    unfold F_X4_readText_L94
    have e1 : q_i3 (n + (k + 1)) - 1 = q_i3 (n + k) := i3_sub (a := n + (k + 1)) (b := 1) (by omega)
    rw [e1, wp_ite, if_neg (fun z => by have := (i3_lt (by omega) (by omega)).mp z; omega), wp_bn, xpL_5 hK, wp_bn]
    refine q_wp_mono (ls_rem hW (hK.k 5 14 (by decide)) (by omega)) ?_
    intro _ ν u
    have hC := u.cs hK
    rw [i3_m1]
    refine q_wp_mono (ih f ν (hC.k0 hK rfl) hC.1 (by rw [u.2.2.1, List.length_eraseIdx, if_pos (by omega)]; omega) (by omega) (by omega)) ?_
    rintro r ρ ⟨rfl, C2, l2⟩
    refine ⟨rfl, (hC.tr C2).wk rfl rfl (by omega) (by omega), ?_⟩
    rw [l2, u.2.2.1, List.eraseIdx_eq_take_drop_succ, List.take_append_of_le_length (by rw [List.length_take]; omega), List.take_take, Nat.min_eq_left (by omega)]

theorem nar_b0 : vp_nar .byte (0 : Int32) = 0 := rfl
def tx (i : Nat) : List Int32 := kBy.getD i []
theorem kIx_1 {μ : Mem} {i t : Nat} (hT : TT μ) (hi : i < 3) (h : mT μ (1 + i) = some t) : kIx μ 1 (some t) = some i := by
  obtain ⟨_, _, ⟨t1, t2, t3, h1, h2, h3, n1, n2, n3⟩, _⟩ := hT
  unfold kIx
  rw [h1, show mT μ (1 + 1) = some t2 from h2, show mT μ (1 + 2) = some t3 from h3]
  rcases (show i = 0 ∨ i = 1 ∨ i = 2 by omega) with rfl | rfl | rfl
  · rw [show mT μ (1 + 0) = some t1 from h1] at h; rw [if_pos h.symm]
  · rw [show mT μ (1 + 1) = some t2 from h2] at h; cases h
    rw [if_neg (by simp; omega), if_pos rfl]
  · rw [show mT μ (1 + 2) = some t3 from h3] at h; cases h
    rw [if_neg (by simp; omega), if_neg (by simp; omega), if_pos rfl]
theorem kIx_11 {μ : Mem} {i t : Nat} (hT : TT μ) (hi : i < 3) (h : mT μ (11 + i) = some t) : kIx μ 11 (some t) = some i := by
  obtain ⟨_, _, _, ⟨t1, t2, t3, h1, h2, h3, n1, n2, n3⟩⟩ := hT
  unfold kIx
  rw [h1, show mT μ (11 + 1) = some t2 from h2, show mT μ (11 + 2) = some t3 from h3]
  rcases (show i = 0 ∨ i = 1 ∨ i = 2 by omega) with rfl | rfl | rfl
  · rw [show mT μ (11 + 0) = some t1 from h1] at h; rw [if_pos h.symm]
  · rw [show mT μ (11 + 1) = some t2 from h2] at h; cases h
    rw [if_neg (by simp; omega), if_pos rfl]
  · rw [show mT μ (11 + 2) = some t3 from h3] at h; cases h
    rw [if_neg (by simp; omega), if_neg (by simp; omega), if_pos rfl]
theorem TT.at {μ : Mem} (hT : TT μ) {i : Nat} (hi : i < 3) : ∃ t v, mT μ (1 + i) = some t ∧ mT μ (11 + i) = some v := by
  obtain ⟨_, _, ⟨t1, t2, t3, h1, h2, h3, _⟩, ⟨v1, v2, v3, g1, g2, g3, _⟩⟩ := hT
  rcases (show i = 0 ∨ i = 1 ∨ i = 2 by omega) with rfl | rfl | rfl
  · exact ⟨t1, v1, h1, g1⟩
  · exact ⟨t2, v2, h2, g2⟩
  · exact ⟨t3, v3, h3, g3⟩
def Tx (μ : Mem) (i t v : Nat) : Prop := i < 3 ∧ kIx μ 1 (some t) = some i ∧ mT μ (11 + i) = some v ∧ kIx μ 11 (some v) = some i
theorem TT.tx {μ : Mem} (hT : TT μ) {i : Nat} (hi : i < 3) : ∃ t v, mT μ (1 + i) = some t ∧ Tx μ i t v := by
  obtain ⟨t, v, h1, h2⟩ := hT.at hi
  exact ⟨t, v, h1, hi, kIx_1 hT hi h1, h2, kIx_11 hT hi h2⟩
theorem wp_kRc {μ : Mem} {i t v : Nat} {Q : Nat → Mem → Prop} (h : Tx μ i t v) : q_wp (kRc (some t)) μ Q ↔ Q t μ := wp_eq (by unfold kRc; simp only [h.2.1])
theorem wp_kV {μ : Mem} {i t v : Nat} {Q : Option Nat → Mem → Prop} (h : Tx μ i t v) : q_wp (kV (some t)) μ Q ↔ Q (some v) μ := wp_eq (by unfold kV; simp only [h.2.1, h.2.2.1])
theorem wp_kC {μ : Mem} {i t v : Nat} {Q : Int32 → Mem → Prop} (h : Tx μ i t v) : q_wp (kC (some t)) μ Q ↔ Q 0 μ := wp_eq (by unfold kC; simp only [h.2.1])
theorem wp_kLen {μ : Mem} {i t v : Nat} {Q : Int32 → Mem → Prop} (h : Tx μ i t v) : q_wp (kLen (some v)) μ Q ↔ Q (q_i3 (kLn.getD i 0)) μ := wp_eq (by unfold kLen; simp only [h.2.2.2]; rfl)
theorem wp_kBt {μ : Mem} {i t v o : Nat} {Q : Int32 → Mem → Prop} (h : Tx μ i t v) (ho : o < kLn.getD i 0) (h1000 : kLn.getD i 0 < 1000) : q_wp (kBt (some v) (q_i3 o)) μ Q ↔ Q ((tx i).getD o 0) μ := by
  have : ¬ (q_i3 o < 0 ∨ kLn.getD i 0 ≤ (q_i3 o).toNatClampNeg) := by
    rw [i3_toNat (by omega)]; rintro (z | z)
    · exact i3_nn (by omega) z
    · omega
  refine wp_eq ?_
  unfold kBt
  simp only [h.2.2.2, this, not_false_iff, if_true]
  rw [i3_toNat (by omega)]; rfl
theorem wp_rb0 {μ : Mem} {Q : Int32 → Mem → Prop} : q_wp (rb 0) μ Q ↔ Q 0 μ := by
  unfold rb q_wp; simp only [nar_b0, if_true, ex_some]
theorem tx_len {i : Nat} (hi : i < 3) : (tx i).length = kLn.getD i 0 ∧ kLn.getD i 0 < 1000 ∧ ∀ y, y ∈ tx i → y &&& 255 = y := by
  have key : ∀ j : Fin 3, (tx j.1).length = kLn.getD j.1 0 ∧ kLn.getD j.1 0 < 1000 ∧ ((tx j.1).all fun y => y &&& 255 == y) = true := by decide
  obtain ⟨h1, h2, h3⟩ := key ⟨i, hi⟩
  refine ⟨h1, h2, fun y hy => ?_⟩
  have := List.all_eq_true.mp h3 y hy
  simpa using this
theorem t_latin {μ : Mem} {i t v : Nat} (h : Tx μ i t v) : F_J0_isLatin1_aae02 t μ = some (1, μ) := by
  apply eq_wp; unfold F_J0_isLatin1_aae02
  rw [wp_ite, if_neg (by decide), wp_bn, wp_kC h, wp_ite, if_neg (fun z => z rfl), wp_rz]; exact ⟨Or.inr rfl, rfl, rfl⟩
theorem t_length {μ : Mem} {i t v : Nat} (h : Tx μ i t v) : F_J0_length_8abf5 t μ = some (q_i3 (kLn.getD i 0), μ) := by
  apply eq_wp; unfold F_J0_length_8abf5 F_J0_coder_7d493
  rw [wp_bn, wp_kV h, wp_bn, wp_kLen h, wp_bn, wp_kRc h, wp_bn, wp_ite, if_neg (by decide), wp_bn, wp_kC h, wp_rb0, wp_rt]
  refine ⟨?_, rfl⟩
  have key : ∀ j : Fin 3, q_i3 (kLn.getD j.1 0) >>> ((0 : Int32) &&& 31) = q_i3 (kLn.getD j.1 0) := by decide
  exact key ⟨i, h.1⟩
theorem wp_rch {μ : Mem} {y : Int32} {Q : Int32 → Mem → Prop} (h : y &&& 255 = y) : q_wp (rch y) μ Q ↔ Q y μ := by
  have : vp_nar .char y = y := by rw [← h]; exact char_nar y
  unfold rch q_wp; simp only [this, if_true, ex_some]
theorem t_charAt {μ : Mem} {i t v o : Nat} (h : Tx μ i t v) (ho : o < kLn.getD i 0) : F_J0_charAt_5068e t (q_i3 o) μ = some ((tx i).getD o 0, μ) := by
  obtain ⟨l1, l2, l3⟩ := tx_len h.1
  have hy : (tx i).getD o 0 &&& 255 = (tx i).getD o 0 := l3 _ (by rw [List.getD_eq_getElem?_getD, List.getElem?_eq_getElem (by omega)]; exact List.getElem_mem _)
  apply eq_wp; unfold F_J0_charAt_5068e F_J1_charAt_3b067 F_J0_checkIndex_df160 F_J3_checkIndex_8e157
  rw [wp_bn, wp_kRc h, wp_bn, wp_eq (t_latin h), wp_ite, if_neg (by decide), wp_bn, wp_kV h, wp_bn, wp_bn, wp_kLen h, wp_bn, wp_bn, wp_cK, wp_bn, wp_ite, if_neg (i3_nn (by omega)), wp_ite, if_pos ((i3_lt (by omega) (by omega)).mpr ho), wp_rt, wp_rt, wp_bn, wp_kBt h ho l2, char_eq, hy, wp_rch hy, wp_rch hy]
  exact ⟨rfl, rfl⟩
theorem t_ixL {μ : Mem} {i t v : Nat} {c : Int32} {Q : Int32 → Mem → Prop} (h : Tx μ i t v) : ∀ (d o f : Nat), o + d = kLn.getD i 0 → d < f → (∀ r : Int32, ((r = -1 ∧ ∀ j, o ≤ j → j < kLn.getD i 0 → (tx i).getD j 0 ≠ c) ∨ (∃ j, o ≤ j ∧ j < kLn.getD i 0 ∧ r = q_i3 j ∧ (tx i).getD j 0 = c ∧ ∀ k, o ≤ k → k < j → (tx i).getD k 0 ≠ c)) → Q r μ) → q_wp (F_J1_indexOfChar_4cfef_L7 f (some v) (q_i3 (kLn.getD i 0)) c (q_i3 o)) μ Q := by
  obtain ⟨l1, l2, l3⟩ := tx_len h.1
  intro d
  induction d with
  | zero =>
    intro o f ho hf hQ
    obtain ⟨f, rfl⟩ : ∃ f', f = f' + 1 := ⟨f - 1, by omega⟩
    unfold F_J1_indexOfChar_4cfef_L7
    rw [wp_ite, if_pos ((i3_le (by omega) (by omega)).mpr (by omega)), wp_rt]
    exact hQ _ (Or.inl ⟨rfl, fun j h1 h2 => by omega⟩)
  | succ d ih =>
    intro o f ho hf hQ
    obtain ⟨f, rfl⟩ : ∃ f', f = f' + 1 := ⟨f - 1, by omega⟩
    unfold F_J1_indexOfChar_4cfef_L7
    rw [wp_ite, if_neg (fun z => by have := (i3_le (by omega) (by omega)).mp z; omega), wp_bn, wp_kBt h (by omega) l2, wp_ite]
    by_cases e : (tx i).getD o 0 = c
    · rw [if_neg (fun z => z e), wp_rt]
      exact hQ _ (Or.inr ⟨o, Nat.le_refl _, by omega, rfl, e, fun k h1 h2 => by omega⟩)
    · rw [if_pos e, i3_1]
      refine ih (o + 1) f (by omega) (by omega) fun r hr => hQ r ?_
      rcases hr with ⟨h1, h2⟩ | ⟨j, h1, h2, h3, h4, h5⟩
      · refine Or.inl ⟨h1, fun j a1 a2 => ?_⟩
        by_cases ej : j = o
        · rw [ej]; exact e
        · exact h2 j (by omega) a2
      · refine Or.inr ⟨j, by omega, h2, h3, h4, fun k a1 a2 => ?_⟩
        by_cases ek : k = o
        · rw [ek]; exact e
        · exact h5 k (by omega) a2
theorem t_indexOf {μ : Mem} {i t v o : Nat} {c : Int32} {Q : Int32 → Mem → Prop} (h : Tx μ i t v) (hc0 : ¬ c < 0) (hc1 : ¬ (255 : Int32) < c) (ho : o < kLn.getD i 0) (hQ : ∀ r : Int32, ((r = -1 ∧ ∀ j, o ≤ j → j < kLn.getD i 0 → (tx i).getD j 0 ≠ c.toInt8.toInt32) ∨ (∃ j, o ≤ j ∧ j < kLn.getD i 0 ∧ r = q_i3 j ∧ (tx i).getD j 0 = c.toInt8.toInt32 ∧ ∀ k, o ≤ k → k < j → (tx i).getD k 0 ≠ c.toInt8.toInt32)) → Q r μ) : q_wp (F_J0_indexOf_7cf53 t c (q_i3 o)) μ Q := by
  obtain ⟨l1, l2, l3⟩ := tx_len h.1
  unfold F_J0_indexOf_7cf53 F_J1_indexOf_4cfef F_J1_canEncode_9a6ad F_J1_indexOfChar_4cfef
  have e1 : (if q_i3 o < (0 : Int32) then (0 : Int32) else q_i3 o) = q_i3 o := if_neg (i3_nn (by omega))
  have e2 : (if q_i3 (kLn.getD i 0) < q_i3 (kLn.getD i 0) then q_i3 (kLn.getD i 0) else q_i3 (kLn.getD i 0)) = q_i3 (kLn.getD i 0) := by split <;> rfl
  rw [wp_bn, wp_kRc h, wp_bn, wp_eq (t_latin h), wp_ite, if_neg (by decide), wp_bn, wp_kV h, wp_bn, wp_kRc h, wp_bn, wp_eq (t_length h), wp_bn, wp_bn, wp_ite, if_neg hc0, wp_ite, if_neg hc1, wp_rz]
  refine ⟨Or.inr rfl, ?_⟩
  rw [wp_ite, if_pos (by decide), wp_bn, wp_kLen h, e1, e2, wp_ite, if_pos ((i3_lt (by omega) (by omega)).mpr ho), wp_bn]
  refine t_ixL h (kLn.getD i 0 - o) o FU (by omega) (by show _ < 100000; omega) fun r hr => ?_
  rw [wp_rt, wp_rt]; exact hQ r hr
def q_sgn (c : Int32) : Bool := (tx 1).contains c
theorem t_sign {μ : Mem} {t v : Nat} {c : Int32} {Q : Int32 → Mem → Prop} (h : Tx μ 1 t v) (hQ : ∀ r : Int32, (r < 0 ↔ q_sgn c = false) → Q r μ) : q_wp (F_J0_indexOf_0f7a4 t c) μ Q := by
  unfold F_J0_indexOf_0f7a4
  rw [wp_bn, wp_kRc h, wp_bn]
  have all : ∀ y, y ∈ tx 1 → ¬ y < 0 ∧ ¬ (255 : Int32) < y := by decide
  have out : (c < 0 ∨ (255 : Int32) < c) → q_sgn c = false := by
    intro hc
    cases hs : q_sgn c with
    | false => rfl
    | true =>
      have := all c (List.contains_iff_mem.mp hs)
      rcases hc with hc | hc
      · exact absurd hc this.1
      · exact absurd hc this.2
  by_cases hc0 : c < 0
  · unfold F_J0_indexOf_7cf53 F_J1_indexOf_4cfef F_J1_canEncode_9a6ad
    rw [wp_bn, wp_kRc h, wp_bn, wp_eq (t_latin h), wp_ite, if_neg (by decide), wp_bn, wp_kV h, wp_bn, wp_kRc h, wp_bn, wp_eq (t_length h), wp_bn, wp_bn, wp_ite, if_pos hc0, wp_rz]
    refine ⟨Or.inl rfl, ?_⟩
    rw [wp_ite, if_neg (fun z => z rfl), wp_rt, wp_rt, wp_rt]
    exact hQ _ ⟨fun _ => out (Or.inl hc0), fun _ => by decide⟩
  by_cases hc1 : (255 : Int32) < c
  · unfold F_J0_indexOf_7cf53 F_J1_indexOf_4cfef F_J1_canEncode_9a6ad
    rw [wp_bn, wp_kRc h, wp_bn, wp_eq (t_latin h), wp_ite, if_neg (by decide), wp_bn, wp_kV h, wp_bn, wp_kRc h, wp_bn, wp_eq (t_length h), wp_bn, wp_bn, wp_ite, if_neg hc0, wp_ite, if_pos hc1, wp_rz]
    refine ⟨Or.inl rfl, ?_⟩
    rw [wp_ite, if_neg (fun z => z rfl), wp_rt, wp_rt, wp_rt]
    exact hQ _ ⟨fun _ => out (Or.inr hc1), fun _ => by decide⟩
  have c8 : ∀ y, y ∈ tx 1 → (y = c.toInt8.toInt32 ↔ y = c) := by
    obtain ⟨n, hn, e⟩ : ∃ n, n < 256 ∧ c = q_i3 n := by
      obtain ⟨n, _, e⟩ := i3_of_nn hc0
      refine ⟨n, ?_, e⟩
      rw [e] at hc1
      have h5 : ¬ 255 < n := fun z => hc1 ((i3_lt (a := 255) (b := n) (by omega) (by omega)).mpr z)
      omega
    subst e
    have key : ∀ n : Fin 256, ((tx 1).all fun y => (y == (q_i3 n.1).toInt8.toInt32) == (y == q_i3 n.1)) = true := by decide +kernel
    intro y hy
    have := List.all_eq_true.mp (key ⟨n, hn⟩) y hy
    have e := beq_iff_eq.mp this
    constructor
    · intro z; rw [beq_iff_eq.mpr z] at e; exact beq_iff_eq.mp e.symm
    · intro z; rw [beq_iff_eq.mpr z] at e; exact beq_iff_eq.mp e
  have mem : ∀ j, j < kLn.getD 1 0 → (tx 1).getD j 0 ∈ tx 1 := fun j hj => by
    rw [List.getD_eq_getElem?_getD, List.getElem?_eq_getElem (by rw [(tx_len h.1).1]; exact hj)]; exact List.getElem_mem _
  refine t_indexOf (o := 0) h hc0 hc1 (by decide) fun r hr => ?_
  rw [wp_rt]
  refine hQ r ?_
  rcases hr with ⟨rfl, h2⟩ | ⟨j, _, h2, rfl, h4, _⟩
  · refine ⟨fun _ => ?_, fun _ => by decide⟩
    cases hs : q_sgn c with
    | false => rfl
    | true =>
      obtain ⟨j, hj, ej⟩ := List.mem_iff_getElem.mp (List.contains_iff_mem.mp hs)
      have hj' : j < kLn.getD 1 0 := by rw [← (tx_len h.1).1]; exact hj
      have eg : (tx 1).getD j 0 = c := by rw [List.getD_eq_getElem?_getD, List.getElem?_eq_getElem hj, ej]; rfl
      exact absurd ((c8 _ (mem j hj')).mpr eg) (h2 j (by omega) hj')
  · have : (tx 1).getD j 0 = c := (c8 _ (mem j h2)).mp h4
    refine ⟨fun z => absurd z (i3_nn (by have := (tx_len h.1).2.1; omega)), fun z => ?_⟩
    have hs : q_sgn c = true := List.contains_iff_mem.mpr (by rw [← this]; exact mem j h2)
    rw [hs] at z; cases z

def isLt (c : Int32) : Bool := decide (¬ c < 97 ∧ ¬ 122 < c)
def isDg (c : Int32) : Bool := decide (¬ c < 48 ∧ ¬ 57 < c)
def isBk (c : Int32) : Bool := decide (c = 32 ∨ c = 10)
def rn (p : Int32 → Bool) (tp : Nat → Int32) : Nat → Nat → Nat
  | 0, q => q
  | f + 1, q => if p (tp q) = true then rn p tp f (q + 1) else q
def rnL (p : Int32 → Bool) (tp : Nat → Int32) (L q : Nat) : Nat := rn p tp (L - q) q
theorem rn_le {p : Int32 → Bool} {tp : Nat → Int32} : ∀ f q, q ≤ rn p tp f q ∧ rn p tp f q ≤ q + f
  | 0, q => ⟨Nat.le_refl _, Nat.le_refl _⟩
  | f + 1, q => by
    unfold rn
    split
    · have := rn_le (p := p) (tp := tp) f (q + 1); omega
    · omega
theorem rnL_le {p : Int32 → Bool} {tp : Nat → Int32} {L q : Nat} (h : q ≤ L) : q ≤ rnL p tp L q ∧ rnL p tp L q ≤ L := by
  have := rn_le (p := p) (tp := tp) (L - q) q
  unfold rnL; omega
theorem rnL_go {p : Int32 → Bool} {tp : Nat → Int32} {L q : Nat} (h : q < L) (hp : p (tp q) = true) : rnL p tp L q = rnL p tp L (q + 1) := by
  unfold rnL
  rw [show L - q = (L - (q + 1)) + 1 by omega]
  show (if p (tp q) = true then _ else _) = _
  rw [if_pos hp]
theorem rnL_st {p : Int32 → Bool} {tp : Nat → Int32} {L q : Nat} (hp : q < L → p (tp q) = false) : rnL p tp L q = q := by
  unfold rnL
  by_cases h : q < L
  · rw [show L - q = (L - (q + 1)) + 1 by omega]
    show (if p (tp q) = true then _ else _) = _
    rw [if_neg (by rw [hp h]; decide)]
  · rw [show L - q = 0 by omega]; rfl
def capC (y : Int32) : Int32 := if (1000000 : Int32) < y then 1000000 else y
def nmC (tp : Nat → Int32) : Nat → Nat → Int32 → Int32
  | 0, _, v => v
  | f + 1, q, v => if isDg (tp q) = true then nmC tp f (q + 1) (capC (v * 10 + tp q - 48)) else v
def WDC : List (List Int32) := [[108, 105, 109, 105, 116], [102, 105, 114, 115, 116], [107, 101, 101, 112], [99, 97, 112], [100, 105, 102, 102], [102, 101, 101], [100, 97, 121], [109, 111, 110, 116, 104], [112, 114, 105, 99, 101], [108, 111, 116, 115], [103, 114, 97, 100, 101], [112, 108, 97, 99, 101], [102, 114, 111, 109], [105, 115], [109, 105, 110], [109, 97, 120]]
def flW (ws : List (List Int32)) : List Int32 := ws.flatMap fun w => w ++ [32]
theorem tx0 : tx 0 = flW WDC := by decide
def slc (tp : Nat → Int32) (p e : Nat) : List Int32 := (List.range (e - p)).map fun i => tp (p + i)
theorem slc_nil {tp : Nat → Int32} {p e : Nat} (h : e ≤ p) : slc tp p e = [] := by unfold slc; rw [show e - p = 0 by omega]; rfl
theorem slc_cons {tp : Nat → Int32} {p e : Nat} (h : p < e) : slc tp p e = tp p :: slc tp (p + 1) e := by
  unfold slc
  rw [show e - p = (e - (p + 1)) + 1 by omega, List.range_succ_eq_map, List.map_cons, List.map_map]
  congr 1
  apply List.map_congr_left
  intro a _
  show tp (p + (a + 1)) = tp (p + 1 + a)
  congr 1; omega
def q_wix : List (List Int32) → Nat → List Int32 → Int32
  | [], _, _ => -1
  | w :: ws, k, s => if s = w then q_i3 k else q_wix ws (k + 1) s
def lkC' (tp : Nat → Int32) (L p : Nat) : Int32 :=
  if L ≤ p then 17 else if isLt (tp p) = true then q_wix WDC 0 (slc tp p (rnL isLt tp L p)) else if isDg (tp p) = true then (if nmC tp (L - p) p 0 ≤ 999999 then 16 else -1) else if q_sgn (tp p) = true then tp p else -1
def lnC (tp : Nat → Int32) (L p : Nat) : Nat := if L ≤ p then p else if isLt (tp p) = true then rnL isLt tp L p else if isDg (tp p) = true then rnL isDg tp L p else p + 1
def lexOf (tp : Nat → Int32) (L : Nat) : q_Lx := (fun q => lkC' tp L (rnL isBk tp L q), fun q => nmC tp (L - rnL isBk tp L q) (rnL isBk tp L q) 0, fun q => rnL isBk tp L q, fun q => lnC tp L (rnL isBk tp L q))
theorem wix_r : ∀ (ws : List (List Int32)) (k : Nat) (s : List Int32), q_wix ws k s = -1 ∨ ∃ j, k ≤ j ∧ j < k + ws.length ∧ q_wix ws k s = q_i3 j
  | [], _, _ => Or.inl rfl
  | w :: ws, k, s => by
    unfold q_wix
    split
    · exact Or.inr ⟨k, Nat.le_refl _, by rw [List.length_cons]; omega, rfl⟩
    · rcases wix_r ws (k + 1) s with h | ⟨j, h1, h2, h3⟩
      · exact Or.inl h
      · exact Or.inr ⟨j, by omega, by rw [List.length_cons]; omega, h3⟩
theorem nmC_nn {tp : Nat → Int32} : ∀ f q v, 0 ≤ v.toInt → v.toInt ≤ 1000000 → 0 ≤ (nmC tp f q v).toInt ∧ (nmC tp f q v).toInt ≤ 1000000
  | 0, _, v, h, h2 => ⟨h, h2⟩
  | f + 1, q, v, h, h2 => by
    unfold nmC
    split
    · rename_i hd
      have hd : ¬ tp q < 48 ∧ ¬ 57 < tp q := of_decide_eq_true hd
      have z48 : (48 : Int32).toInt = 48 := rfl
      have z57 : (57 : Int32).toInt = 57 := rfl
      have z10 : (10 : Int32).toInt = 10 := rfl
      have zM : (1000000 : Int32).toInt = 1000000 := rfl
      rw [Int32.lt_iff_toInt_lt, Int32.lt_iff_toInt_lt, z48, z57] at hd
      have e1 : (v * 10).toInt = v.toInt * 10 := by rw [Int32.toInt_mul, z10, Int.bmod_eq_of_le (by omega) (by omega)]
      have e2 : (v * 10 + tp q).toInt = v.toInt * 10 + (tp q).toInt := by rw [Int32.toInt_add, e1, Int.bmod_eq_of_le (by omega) (by omega)]
      have e3 : (v * 10 + tp q - 48).toInt = v.toInt * 10 + (tp q).toInt - 48 := by rw [Int32.toInt_sub, e2, z48, Int.bmod_eq_of_le (by omega) (by omega)]
      refine nmC_nn f (q + 1) _ ?_ ?_
      · unfold capC; split
        · decide
        · omega
      · unfold capC; split
        · decide
        · rename_i h3; rw [Int32.lt_iff_toInt_lt, zM] at h3; omega
    · exact ⟨h, h2⟩
theorem lex_ok (tp : Nat → Int32) (L : Nat) : xOK (lexOf tp L) L := by
  constructor
  · intro q h z
    have := (nmC_nn (tp := tp) (L - rnL isBk tp L q) (rnL isBk tp L q) 0 (by decide) (by decide)).1
    rw [Int32.lt_iff_toInt_lt] at z
    have z0 : (0 : Int32).toInt = 0 := rfl
    rw [z0] at z
    have z : (nmC tp (L - rnL isBk tp L q) (rnL isBk tp L q) 0).toInt < 0 := z
    omega
  · intro q hq
    have h1 := rnL_le (p := isBk) (tp := tp) hq
    refine ⟨?_, h1.2, ?_⟩
    · show lnC tp L (rnL isBk tp L q) ≤ L
      unfold lnC
      split
      · exact h1.2
      · split
        · exact (rnL_le h1.2).2
        · split
          · exact (rnL_le h1.2).2
          · omega
    · show lkC' tp L (rnL isBk tp L q) ≠ 18
      unfold lkC'
      split
      · decide
      · split
        · rcases wix_r WDC 0 (slc tp (rnL isBk tp L q) (rnL isLt tp L (rnL isBk tp L q))) with h | ⟨j, _, h2, h3⟩
          · rw [h]; decide
          · rw [h3]
            have : j < 16 := h2
            intro z
            have := (i3_eq (b := 18) (by omega) (by omega)).mp z
            omega
        · split
          · split <;> decide
          · split
            · rename_i hs
              have : ∀ y, y ∈ tx 1 → y ≠ 18 := by decide
              exact this _ (List.contains_iff_mem.mp hs)
            · decide
theorem c_wfM {b p e k : Nat} {tp : Nat → Int32} {L : Nat} {μ : Mem} {Q : Int32 → Mem → Prop} (hE : q_Env μ b tp L) (he : e ≤ L) (hpe : p ≤ e) : ∀ (w : List Int32) (pre rest : List Int32) (f : Nat), tx 0 = pre ++ (w ++ 32 :: rest) → (∀ c, c ∈ w → c ≠ 32) → q_wp (F_X4_wordFrom_L8 f (b + 1) (q_i3 p) (q_i3 e) (q_i3 (k + 1)) (q_i3 p) (q_i3 (pre.length + w.length + 1))) μ Q → q_wp (F_X4_wordFrom_L8 (f + (w.length + 1)) (b + 1) (q_i3 p) (q_i3 e) (q_i3 k) (-1) (q_i3 pre.length)) μ Q := by
  obtain ⟨t, v, h1, hX⟩ := hE.2.1.2.1.tx (i := 0) (by omega)
  obtain ⟨l1, l2, _⟩ := tx_len (i := 0) (by omega)
  have hL := hE.2.2.2.1
  intro w
  induction w with
  | nil =>
    intro pre rest f hs hw hQ
    have hl : pre.length < kLn.getD 0 0 := by rw [← l1, hs]; simp
    have ec : (tx 0).getD pre.length 0 = 32 := by rw [hs]; simp
    show q_wp (F_X4_wordFrom_L8 (f + 1) (b + 1) (q_i3 p) (q_i3 e) (q_i3 k) (-1) (q_i3 pre.length)) μ Q
    unfold F_X4_wordFrom_L8 F_X4_wordFrom_L84
    rw [wp_bn, wp_cK, show mT μ 1 = some t from h1, wp_bn, wp_kRc hX, wp_bn, wp_eq (t_length hX), wp_ite, if_neg (fun z => by have := (i3_le (by omega) (by omega)).mp z; omega), wp_bn, wp_cK, show mT μ 1 = some t from h1, wp_bn, wp_kRc hX, wp_bn, wp_eq (t_charAt hX hl), ec, wp_ite, if_neg (fun z => z rfl), wp_ite, if_pos (fun z => i3_ne_m1 (j := e) (by omega) z.symm), i3_1, i3_1]
    exact hQ
  | cons c w ih =>
    intro pre rest f hs hw hQ
    have hl : pre.length < kLn.getD 0 0 := by rw [← l1, hs]; simp
    have ec : (tx 0).getD pre.length 0 = c := by rw [hs]; simp
    have hc : c ≠ 32 := hw c (by simp)
    rw [show f + ((c :: w).length + 1) = (f + (w.length + 1)) + 1 by rw [List.length_cons]; omega]
    unfold F_X4_wordFrom_L8 F_X4_wordFrom_L84 F_X4_wordFrom_L81 F_X4_wordFrom_L84
    rw [wp_bn, wp_cK, show mT μ 1 = some t from h1, wp_bn, wp_kRc hX, wp_bn, wp_eq (t_length hX), wp_ite, if_neg (fun z => by have := (i3_le (by omega) (by omega)).mp z; omega), wp_bn, wp_cK, show mT μ 1 = some t from h1, wp_bn, wp_kRc hX, wp_bn, wp_eq (t_charAt hX hl), ec, wp_ite, if_pos hc, wp_ite]
    have lt : (-1 : Int32) < q_i3 p := by
      rw [Int32.lt_iff_toInt_lt, i3_toInt (by omega)]; have : (-1 : Int32).toInt = -1 := by decide
      omega
    have fin : q_wp (F_X4_wordFrom_L8 (f + (w.length + 1)) (b + 1) (q_i3 p) (q_i3 e) (q_i3 k) (-1) (q_i3 pre.length + 1)) μ Q := by
      rw [i3_1]
      have := ih (pre ++ [c]) rest f (by rw [hs]; simp) (fun d hd => hw d (by simp [hd])) (by
        rw [List.length_append, List.length_singleton]
        rw [List.length_cons] at hQ
        rw [show pre.length + 1 + w.length + 1 = pre.length + (w.length + 1) + 1 by omega]; exact hQ)
      rw [List.length_append, List.length_singleton] at this
      exact this
    rw [if_pos lt]; exact fin
theorem c_wfW {b p e k : Nat} {tp : Nat → Int32} {L : Nat} {μ : Mem} {Q : Int32 → Mem → Prop} (hE : q_Env μ b tp L) (he : e ≤ L) : ∀ (w : List Int32) (pre rest : List Int32) (m f : Nat), p + m ≤ e → tx 0 = pre ++ (w ++ 32 :: rest) → (∀ c, c ∈ w → c ≠ 32) → (slc tp (p + m) e = w → Q (q_i3 k) μ) → (slc tp (p + m) e ≠ w → q_wp (F_X4_wordFrom_L8 f (b + 1) (q_i3 p) (q_i3 e) (q_i3 (k + 1)) (q_i3 p) (q_i3 (pre.length + w.length + 1))) μ Q) → q_wp (F_X4_wordFrom_L8 (f + (w.length + 1)) (b + 1) (q_i3 p) (q_i3 e) (q_i3 k) (q_i3 (p + m)) (q_i3 pre.length)) μ Q := by
  obtain ⟨t, v, h1, hX⟩ := hE.2.1.2.1.tx (i := 0) (by omega)
  obtain ⟨l1, l2, _⟩ := tx_len (i := 0) (by omega)
  have hL := hE.2.2.2.1
  intro w
  induction w with
  | nil =>
    intro pre rest m f hpm hs hw hQ1 hQ2
    have hl : pre.length < kLn.getD 0 0 := by rw [← l1, hs]; simp
    have ec : (tx 0).getD pre.length 0 = 32 := by rw [hs]; simp
    show q_wp (F_X4_wordFrom_L8 (f + 1) (b + 1) (q_i3 p) (q_i3 e) (q_i3 k) (q_i3 (p + m)) (q_i3 pre.length)) μ Q
    unfold F_X4_wordFrom_L8 F_X4_wordFrom_L84
    rw [wp_bn, wp_cK, show mT μ 1 = some t from h1, wp_bn, wp_kRc hX, wp_bn, wp_eq (t_length hX), wp_ite, if_neg (fun z => by have := (i3_le (by omega) (by omega)).mp z; omega), wp_bn, wp_cK, show mT μ 1 = some t from h1, wp_bn, wp_kRc hX, wp_bn, wp_eq (t_charAt hX hl), ec, wp_ite, if_neg (fun z => z rfl), wp_ite]
    by_cases e0 : p + m = e
    · rw [if_neg (fun z => z (by rw [e0])), wp_rt]
      exact hQ1 (slc_nil (by omega))
    · rw [if_pos (fun z => e0 ((i3_eq (by omega) (by omega)).mp z)), i3_1, i3_1]
      exact hQ2 (by rw [slc_cons (by omega)]; simp)
  | cons c w ih =>
    intro pre rest m f hpm hs hw hQ1 hQ2
    have hl : pre.length < kLn.getD 0 0 := by rw [← l1, hs]; simp
    have ec : (tx 0).getD pre.length 0 = c := by rw [hs]; simp
    have hc : c ≠ 32 := hw c (by simp)
    have hs' : tx 0 = (pre ++ [c]) ++ (w ++ 32 :: rest) := by rw [hs]; simp
    have hw' : ∀ d, d ∈ w → d ≠ 32 := fun d hd => hw d (by simp [hd])
    have hlen : pre.length + (c :: w).length + 1 = (pre ++ [c]).length + w.length + 1 := by rw [List.length_append, List.length_cons, List.length_singleton]; omega
    have mis : slc tp (p + m) e ≠ c :: w → q_wp (F_X4_wordFrom_L8 (f + (w.length + 1)) (b + 1) (q_i3 p) (q_i3 e) (q_i3 k) (-1) (q_i3 pre.length + 1)) μ Q := by
      intro hne
      rw [i3_1]
      have := c_wfM (p := p) (k := k) hE he (by omega) w (pre ++ [c]) rest f hs' hw' (by rw [← hlen]; exact hQ2 hne)
      rw [List.length_append, List.length_singleton] at this
      exact this
    rw [show f + ((c :: w).length + 1) = (f + (w.length + 1)) + 1 by rw [List.length_cons]; omega]
    unfold F_X4_wordFrom_L8 F_X4_wordFrom_L84 F_X4_wordFrom_L81 F_X4_wordFrom_L84
    rw [wp_bn, wp_cK, show mT μ 1 = some t from h1, wp_bn, wp_kRc hX, wp_bn, wp_eq (t_length hX), wp_ite, if_neg (fun z => by have := (i3_le (by omega) (by omega)).mp z; omega), wp_bn, wp_cK, show mT μ 1 = some t from h1, wp_bn, wp_kRc hX, wp_bn, wp_eq (t_charAt hX hl), ec, wp_ite, if_pos hc, wp_ite, if_neg (fun z => by have := (i3_lt (by omega) (by omega)).mp z; omega), wp_ite]
    by_cases e0 : e ≤ p + m
    · rw [if_pos ((i3_le (by omega) (by omega)).mpr e0)]
      exact mis (by rw [slc_nil e0]; simp)
    · rw [if_neg (fun z => e0 ((i3_le (by omega) (by omega)).mp z)), wp_bn, xgP4_0 hE.1, wp_bn, xl115 hE.1, inA_i3 (by omega), i3_toNat (by omega), hE.2.2.2.2 (p + m) (by omega)]
      refine ⟨by omega, ?_⟩
      rw [wp_ite]
      have es : slc tp (p + m) e = tp (p + m) :: slc tp (p + (m + 1)) e := slc_cons (by omega)
      by_cases ev : tp (p + m) = c
      · rw [if_neg (fun z => z ev), i3_1, i3_1]
        have := ih (pre ++ [c]) rest (m + 1) f (by omega) hs' hw' (fun z => hQ1 (by rw [es, z, ev])) (fun z => by
          rw [← hlen]; exact hQ2 (by rw [es, ev]; intro y; injection y with _ y; exact z y))
        rw [List.length_append, List.length_singleton] at this
        exact this
      · rw [if_pos ev]
        exact mis (by rw [es]; intro y; injection y with y _; exact ev y)
theorem c_words {b p e : Nat} {tp : Nat → Int32} {L : Nat} {μ : Mem} {Q : Int32 → Mem → Prop} (hE : q_Env μ b tp L) (he : e ≤ L) (hpe : p ≤ e) : ∀ (ws : List (List Int32)) (pre : List Int32) (k f : Nat), tx 0 = pre ++ flW ws → (∀ w, w ∈ ws → ∀ c, c ∈ w → c ≠ 32) → (flW ws).length < f → Q (q_wix ws k (slc tp p e)) μ → q_wp (F_X4_wordFrom_L8 f (b + 1) (q_i3 p) (q_i3 e) (q_i3 k) (q_i3 p) (q_i3 pre.length)) μ Q := by
  obtain ⟨t, v, h1, hX⟩ := hE.2.1.2.1.tx (i := 0) (by omega)
  obtain ⟨l1, l2, _⟩ := tx_len (i := 0) (by omega)
  intro ws
  induction ws with
  | nil =>
    intro pre k f hs hw hf hQ
    obtain ⟨f, rfl⟩ : ∃ f', f = f' + 1 := ⟨f - 1, by omega⟩
    have hl : pre.length = kLn.getD 0 0 := by rw [← l1, hs]; simp [flW]
    unfold F_X4_wordFrom_L8
    rw [wp_bn, wp_cK, show mT μ 1 = some t from h1, wp_bn, wp_kRc hX, wp_bn, wp_eq (t_length hX), wp_ite, if_pos ((i3_le (by omega) (by omega)).mpr (by omega)), wp_rt]
    exact hQ
  | cons w ws ih =>
    intro pre k f hs hw hf hQ
    have ef : flW (w :: ws) = w ++ 32 :: flW ws := by unfold flW; rw [List.flatMap_cons]; simp
    rw [ef] at hs hf
    have hf' : w.length + 1 + (flW ws).length < f := by simp at hf; omega
    obtain ⟨g, rfl⟩ : ∃ g, f = g + (w.length + 1) := ⟨f - (w.length + 1), by omega⟩
    have hQ' : Q (if slc tp p e = w then q_i3 k else q_wix ws (k + 1) (slc tp p e)) μ := hQ
    refine c_wfW (p := p) (k := k) hE he w pre (flW ws) 0 g (by omega) hs (hw w (by simp)) (fun (z : slc tp p e = w) => by rw [if_pos z] at hQ'; exact hQ') (fun (z : slc tp p e ≠ w) => ?_)
    rw [if_neg z] at hQ'
    have := ih (pre ++ (w ++ [32])) (k + 1) g (by rw [hs]; simp) (fun w' h' => hw w' (by simp [h'])) (by omega) hQ'
    have el : (pre ++ (w ++ [32])).length = pre.length + w.length + 1 := by rw [List.length_append, List.length_append, List.length_singleton]; omega
    rw [el] at this
    exact this
theorem c_wordFrom {b p e : Nat} {tp : Nat → Int32} {L : Nat} {μ : Mem} {Q : Int32 → Mem → Prop} (hE : q_Env μ b tp L) (he : e ≤ L) (hpe : p ≤ e) (hQ : Q (q_wix WDC 0 (slc tp p e)) μ) : q_wp (F_X4_wordFrom (b + 1) (q_i3 p) (q_i3 e)) μ Q := by
  unfold F_X4_wordFrom
  exact c_words hE he hpe WDC [] 0 FU (by rw [List.nil_append]; exact tx0) (by decide) (by show _ < 100000; decide) hQ

theorem c_isLetter {μ : Mem} {c : Int32} : F_X4_isLetter c μ = some (if isLt c = true then 1 else 0, μ) := by
  apply eq_wp; unfold F_X4_isLetter isLt
  by_cases h1 : c < 97
  · rw [wp_ite, if_pos h1, wp_rz, if_neg (by simp [h1])]; exact ⟨Or.inl rfl, rfl, rfl⟩
  · rw [wp_ite, if_neg h1, wp_ite]
    by_cases h2 : (122 : Int32) < c
    · rw [if_pos h2, wp_rz, if_neg (by simp [h2])]; exact ⟨Or.inl rfl, rfl, rfl⟩
    · rw [if_neg h2, wp_rz, if_pos (decide_eq_true ⟨h1, h2⟩)]; exact ⟨Or.inr rfl, rfl, rfl⟩
theorem c_isDigit {μ : Mem} {c : Int32} : F_X4_isDigit c μ = some (if isDg c = true then 1 else 0, μ) := by
  apply eq_wp; unfold F_X4_isDigit isDg
  by_cases h1 : c < 48
  · rw [wp_ite, if_pos h1, wp_rz, if_neg (by simp [h1])]; exact ⟨Or.inl rfl, rfl, rfl⟩
  · rw [wp_ite, if_neg h1, wp_ite]
    by_cases h2 : (57 : Int32) < c
    · rw [if_pos h2, wp_rz, if_neg (by simp [h2])]; exact ⟨Or.inl rfl, rfl, rfl⟩
    · rw [if_neg h2, wp_rz, if_pos (decide_eq_true ⟨h1, h2⟩)]; exact ⟨Or.inr rfl, rfl, rfl⟩
theorem r_isLetter {μ : Mem} {c : Int32} : F_X12_isLetter c μ = some (if isLt c = true then 1 else 0, μ) := c_isLetter
theorem r_isDigit {μ : Mem} {c : Int32} : F_X12_isDigit c μ = some (if isDg c = true then 1 else 0, μ) := c_isDigit
theorem sAt {μ : Mem} {b q L : Nat} {tp : Nat → Int32} (hE : q_Env μ b tp L) : Md [260] μ (sI μ 260 (b + 1) (q_i3 q)) ∧ q_Env (sI μ 260 (b + 1) (q_i3 q)) b tp L ∧ mI (sI μ 260 (b + 1) (q_i3 q)) 260 (b + 1) = q_i3 q := by
  have m : Md [260] μ (sI μ 260 (b + 1) (q_i3 q)) := Md.sI (by rw [kk4 hE.1]; omega)
  exact ⟨m, hE.md m rfl, by rw [mI_sI', if_pos ⟨rfl, rfl⟩]⟩
theorem c_skip {b L : Nat} {tp : Nat → Int32} {Q : Unit → Mem → Prop} : ∀ (d q f : Nat) (μ : Mem), q_Env μ b tp L → mI μ 260 (b + 1) = q_i3 q → q + d = L → d < f → (∀ ν, q_Env ν b tp L → Md [260] μ ν → mI ν 260 (b + 1) = q_i3 (rnL isBk tp L q) → q_wp (F_X4_advance_L62 (b + 1)) ν Q) → q_wp (F_X4_advance_L10 f (b + 1)) μ Q := by
  intro d
  induction d with
  | zero =>
    intro q f μ hE hq hd hf hQ
    obtain ⟨f, rfl⟩ : ∃ f', f = f' + 1 := ⟨f - 1, by omega⟩
    have hL := hE.2.2.2.1
    unfold F_X4_advance_L10
    rw [wp_bn, xgI4 hE.1, show mI μ (64 * 4 + 4) (b + 1) = q_i3 q from hq, wp_bn, xgI4 hE.1, show mI μ (64 * 4 + 1) (b + 1) = q_i3 L from hE.2.2.1, wp_ite, if_pos ((i3_le (by omega) (by omega)).mpr (by omega))]
    exact hQ μ hE ((Md.rf μ).wk rfl) (by rw [rnL_st (fun z => by omega)]; exact hq)
  | succ d ih =>
    intro q f μ hE hq hd hf hQ
    obtain ⟨f, rfl⟩ : ∃ f', f = f' + 1 := ⟨f - 1, by omega⟩
    have hL := hE.2.2.2.1
    have hq' : mI μ (64 * 4 + 4) (b + 1) = q_i3 q := hq
    have tv := hE.2.2.2.2 q (by omega)
    unfold F_X4_advance_L10 F_X4_advance_L49
    have go : (tp q = 32 ∨ tp q = 10) → q_wp (bn (gI 4 4 (some (b + 1))) fun v33 => bn (wI 4 4 (some (b + 1)) (v33 + (1 : Int32))) fun _ => F_X4_advance_L10 f (b + 1)) μ Q := by
      intro h
      rw [wp_bn, xgI4 hE.1, hq', i3_1, wp_bn, xwI4 hE.1]
      obtain ⟨m1, E1, h1⟩ := sAt (q := q + 1) hE
      refine ih (q + 1) f _ E1 h1 (by omega) (by omega) fun ν E2 m2 h2 => hQ ν E2 ((m1.tr m2).wk rfl) ?_
      rw [rnL_go (by omega) (decide_eq_true h)]; exact h2
    rw [wp_bn, xgI4 hE.1, hq', wp_bn, xgI4 hE.1, show mI μ (64 * 4 + 1) (b + 1) = q_i3 L from hE.2.2.1, wp_ite, if_neg (fun z => by have := (i3_le (by omega) (by omega)).mp z; omega), wp_bn, xgP4_0 hE.1, wp_bn, xgI4 hE.1, hq', wp_bn, xl115 hE.1, inA_i3 (by omega), i3_toNat (by omega), tv]
    refine ⟨by omega, ?_⟩
    rw [wp_ite]
    by_cases h32 : tp q = 32
    · rw [if_pos h32]; exact go (Or.inl h32)
    rw [if_neg h32, wp_bn, xgP4_0 hE.1, wp_bn, xgI4 hE.1, hq', wp_bn, xl115 hE.1, inA_i3 (by omega), i3_toNat (by omega), tv]
    refine ⟨by omega, ?_⟩
    rw [wp_ite]
    by_cases h10 : tp q = 10
    · rw [if_neg (fun z => z h10)]; exact go (Or.inr h10)
    · rw [if_pos h10]
      exact hQ μ hE ((Md.rf μ).wk rfl) (by rw [rnL_st (fun _ => decide_eq_false (fun z => z.elim h32 h10))]; exact hq)
theorem c_letters {b L : Nat} {tp : Nat → Int32} {Q : Unit → Mem → Prop} : ∀ (d q f : Nat) (μ : Mem), q_Env μ b tp L → mI μ 260 (b + 1) = q_i3 q → q + d = L → d < f → (∀ ν, q_Env ν b tp L → Md [260] μ ν → mI ν 260 (b + 1) = q_i3 (rnL isLt tp L q) → q_wp (F_X4_advance_L144 (b + 1)) ν Q) → q_wp (F_X4_advance_L105 f (b + 1)) μ Q := by
  intro d
  induction d with
  | zero =>
    intro q f μ hE hq hd hf hQ
    obtain ⟨f, rfl⟩ : ∃ f', f = f' + 1 := ⟨f - 1, by omega⟩
    have hL := hE.2.2.2.1
    unfold F_X4_advance_L105
    rw [wp_bn, xgI4 hE.1, show mI μ (64 * 4 + 4) (b + 1) = q_i3 q from hq, wp_bn, xgI4 hE.1, show mI μ (64 * 4 + 1) (b + 1) = q_i3 L from hE.2.2.1, wp_ite, if_pos ((i3_le (by omega) (by omega)).mpr (by omega))]
    exact hQ μ hE ((Md.rf μ).wk rfl) (by rw [rnL_st (fun z => by omega)]; exact hq)
  | succ d ih =>
    intro q f μ hE hq hd hf hQ
    obtain ⟨f, rfl⟩ : ∃ f', f = f' + 1 := ⟨f - 1, by omega⟩
    have hL := hE.2.2.2.1
    have hq' : mI μ (64 * 4 + 4) (b + 1) = q_i3 q := hq
    have tv := hE.2.2.2.2 q (by omega)
    unfold F_X4_advance_L105
    rw [wp_bn, xgI4 hE.1, hq', wp_bn, xgI4 hE.1, show mI μ (64 * 4 + 1) (b + 1) = q_i3 L from hE.2.2.1, wp_ite, if_neg (fun z => by have := (i3_le (by omega) (by omega)).mp z; omega), wp_bn, xgP4_0 hE.1, wp_bn, xgI4 hE.1, hq', wp_bn, xl115 hE.1, inA_i3 (by omega), i3_toNat (by omega), tv]
    refine ⟨by omega, ?_⟩
    rw [wp_bn, wp_eq c_isLetter, wp_ite]
    by_cases h : isLt (tp q) = true
    · rw [if_pos h, if_neg (by decide), wp_bn, xgI4 hE.1, hq', i3_1, wp_bn, xwI4 hE.1]
      obtain ⟨m1, E1, h1⟩ := sAt (q := q + 1) hE
      refine ih (q + 1) f _ E1 h1 (by omega) (by omega) fun ν E2 m2 h2 => hQ ν E2 ((m1.tr m2).wk rfl) ?_
      rw [rnL_go (by omega) h]; exact h2
    · rw [if_neg h, if_pos rfl]
      exact hQ μ hE ((Md.rf μ).wk rfl) (by rw [rnL_st (fun _ => by simpa using h)]; exact hq)
theorem c_digits {b L : Nat} {tp : Nat → Int32} {Q : Unit → Mem → Prop} : ∀ (d q f : Nat) (v : Int32) (μ : Mem), q_Env μ b tp L → mI μ 260 (b + 1) = q_i3 q → mI μ 263 (b + 1) = v → q + d = L → d < f → (∀ ν, q_Env ν b tp L → Md [260, 263] μ ν → mI ν 260 (b + 1) = q_i3 (rnL isDg tp L q) → mI ν 263 (b + 1) = nmC tp (L - q) q v → q_wp (F_X4_readNumber_L73 (b + 1)) ν Q) → q_wp (F_X4_readNumber_L5 f (b + 1)) μ Q := by
  intro d
  induction d with
  | zero =>
    intro q f v μ hE hq hv hd hf hQ
    obtain ⟨f, rfl⟩ : ∃ f', f = f' + 1 := ⟨f - 1, by omega⟩
    have hL := hE.2.2.2.1
    unfold F_X4_readNumber_L5
    rw [wp_bn, xgI4 hE.1, show mI μ (64 * 4 + 4) (b + 1) = q_i3 q from hq, wp_bn, xgI4 hE.1, show mI μ (64 * 4 + 1) (b + 1) = q_i3 L from hE.2.2.1, wp_ite, if_pos ((i3_le (by omega) (by omega)).mpr (by omega))]
    exact hQ μ hE ((Md.rf μ).wk rfl) (by rw [rnL_st (fun z => by omega)]; exact hq) (by rw [show L - q = 0 by omega]; exact hv)
  | succ d ih =>
    intro q f v μ hE hq hv hd hf hQ
    obtain ⟨f, rfl⟩ : ∃ f', f = f' + 1 := ⟨f - 1, by omega⟩
    have hL := hE.2.2.2.1
    have hq' : mI μ (64 * 4 + 4) (b + 1) = q_i3 q := hq
    have tv := hE.2.2.2.2 q (by omega)
    have k1 : mK μ (b + 1) ≠ 0 := by rw [kk4 hE.1]; omega
    have eN : nmC tp (L - q) q v = if isDg (tp q) = true then nmC tp (L - (q + 1)) (q + 1) (capC (v * 10 + tp q - 48)) else v := by
      rw [show L - q = (L - (q + 1)) + 1 by omega]; rfl
    unfold F_X4_readNumber_L5
    rw [wp_bn, xgI4 hE.1, hq', wp_bn, xgI4 hE.1, show mI μ (64 * 4 + 1) (b + 1) = q_i3 L from hE.2.2.1, wp_ite, if_neg (fun z => by have := (i3_le (by omega) (by omega)).mp z; omega), wp_bn, xgP4_0 hE.1, wp_bn, xgI4 hE.1, hq', wp_bn, xl115 hE.1, inA_i3 (by omega), i3_toNat (by omega), tv]
    refine ⟨by omega, ?_⟩
    rw [wp_bn, wp_eq c_isDigit, wp_ite]
    by_cases h : isDg (tp q) = true
    · rw [if_pos h] at eN
      rw [if_pos h, if_neg (by decide), wp_bn, xgI4 hE.1, show mI μ (64 * 4 + 7) (b + 1) = v from hv, wp_bn, xgP4_0 hE.1, wp_bn, xgI4 hE.1, hq', wp_bn, xl115 hE.1, inA_i3 (by omega), i3_toNat (by omega), tv]
      refine ⟨by omega, ?_⟩
      rw [wp_bn, xwI4 hE.1]
      have m1 : Md [263] μ (sI μ (64 * 4 + 7) (b + 1) (capC (v * 10 + tp q - 48))) := Md.sI k1
      have E1 := hE.md m1 rfl
      show q_wp _ (sI μ (64 * 4 + 7) (b + 1) (capC (v * 10 + tp q - 48))) Q
      rw [wp_bn, xgI4 E1.1, show mI (sI μ (64 * 4 + 7) (b + 1) (capC (v * 10 + tp q - 48))) (64 * 4 + 4) (b + 1) = q_i3 q by rw [m1.1.i _ rfl]; exact hq, i3_1, wp_bn, xwI4 E1.1]
      obtain ⟨m2, E2, h2⟩ := sAt (q := q + 1) E1
      refine ih (q + 1) f _ _ E2 h2 (by rw [m2.1.i 263 rfl, mI_sI', if_pos ⟨rfl, rfl⟩]) (by omega) (by omega) fun ν E3 m3 h3 h4 => hQ ν E3 (((m1.tr m2).tr m3).wk rfl) ?_ ?_
      · rw [rnL_go (by omega) h]; exact h3
      · rw [eN]; exact h4
    · rw [if_neg h] at eN
      rw [if_neg h, if_pos rfl]
      exact hQ μ hE ((Md.rf μ).wk rfl) (by rw [rnL_st (fun _ => by simpa using h)]; exact hq) (by rw [eN]; exact hv)
theorem c_advOK (b : Nat) (tp : Nat → Int32) (L : Nat) : AdvOK b tp L (lexOf tp L) := by
  intro μ q hE h18 h258 h259 hq h260
  have hL := hE.2.2.2.1
  unfold F_X4_advance
  rw [wp_bn, xgI4 hE.1, wp_ite, if_pos h18]
  refine c_skip (L - q) q FU μ hE h260 (by omega) (by show _ < 100000; omega) fun μ1 E1 m1 a1 => ?_
  obtain ⟨p, ep⟩ : ∃ p, p = rnL isBk tp L q := ⟨_, rfl⟩
  have eK : lxk (lexOf tp L) q = lkC' tp L p := by rw [ep]; rfl
  have eF : lxf (lexOf tp L) q = p := by rw [ep]; rfl
  have eN : lxn (lexOf tp L) q = lnC tp L p := by rw [ep]; rfl
  have eV : lxv (lexOf tp L) q = nmC tp (L - p) p 0 := by rw [ep]; rfl
  have hp := (rnL_le (p := isBk) (tp := tp) hq).2
  rw [← ep] at a1 hp
  unfold cTok
  rw [eK, eF, eN, eV]
  have k1 : mK μ1 (b + 1) ≠ 0 := by rw [kk4 E1.1]; omega
  unfold F_X4_advance_L62
  rw [wp_bn, xgI4 E1.1, show mI μ1 (64 * 4 + 4) (b + 1) = q_i3 p from a1, wp_bn, xwI4 E1.1]
  have m2 : Md [261] μ1 (sI μ1 (64 * 4 + 5) (b + 1) (q_i3 p)) := Md.sI k1
  obtain ⟨μ2, e2⟩ : ∃ μ2, μ2 = sI μ1 (64 * 4 + 5) (b + 1) (q_i3 p) := ⟨_, rfl⟩
  have p2 : mI μ2 261 (b + 1) = q_i3 p := by rw [e2, mI_sI', if_pos ⟨rfl, rfl⟩]
  rw [← e2] at m2 ⊢
  have E2 := E1.md m2 rfl
  have a2 : mI μ2 (64 * 4 + 4) (b + 1) = q_i3 p := by rw [m2.1.i _ rfl]; exact a1
  have m12 := m1.tr m2
  have f2 : mI μ2 258 (b + 1) = 0 ∧ mI μ2 259 (b + 1) = 0 ∧ mI μ2 262 (b + 1) ≠ 18 := ⟨by rw [m12.1.i 258 rfl]; exact h258, by rw [m12.1.i 259 rfl]; exact h259, by rw [m12.1.i 262 rfl]; exact h18⟩
  have k2 : mK μ2 (b + 1) ≠ 0 := by rw [kk4 E2.1]; omega
  rw [wp_bn, xgI4 E2.1, a2, wp_bn, xgI4 E2.1, show mI μ2 (64 * 4 + 1) (b + 1) = q_i3 L from E2.2.2.1, wp_ite]
  by_cases hpL : p < L
  rotate_left
  · 
    have ek : lkC' tp L p = 17 := by unfold lkC'; rw [if_pos (by omega)]
    have en : lnC tp L p = p := by unfold lnC; rw [if_pos (by omega)]
    rw [ek, en, if_neg (fun z => hpL ((i3_lt (by omega) (by omega)).mp z)), wp_bn, xwI4 E2.1, wp_rt]
    have m3 : Md [262] μ2 (sI μ2 (64 * 4 + 6) (b + 1) 17) := Md.sI k2
    refine ⟨(m12.tr m3).wk rfl, fun z => absurd z (by decide), fun _ => ⟨by rw [m3.1.i 260 rfl]; exact a2, by rw [m3.1.i 261 rfl]; exact p2, by rw [mI_sI', if_pos ⟨rfl, rfl⟩], fun z => absurd z (by decide), by rw [m3.1.i 258 rfl]; exact f2.1, by rw [m3.1.i 259 rfl]; exact f2.2.1⟩⟩
  have tv := E2.2.2.2.2 p hpL
  rw [if_pos ((i3_lt (by omega) (by omega)).mpr hpL), wp_bn, xgP4_0 E2.1, wp_bn, xgI4 E2.1, a2, wp_bn, xl115 E2.1, inA_i3 (by omega), i3_toNat (by omega), tv]
  refine ⟨by omega, ?_⟩
  rw [wp_bn, wp_eq c_isLetter, wp_ite]
  by_cases hl : isLt (tp p) = true
  · 
    have ek : lkC' tp L p = q_wix WDC 0 (slc tp p (rnL isLt tp L p)) := by unfold lkC'; rw [if_neg (by omega), if_pos hl]
    have en : lnC tp L p = rnL isLt tp L p := by unfold lnC; rw [if_neg (by omega), if_pos hl]
    have re := rnL_le (p := isLt) (tp := tp) hp
    rw [ek, en, if_pos hl, if_neg (by decide)]
    refine c_letters (L - p) p FU μ2 E2 a2 (by omega) (by show _ < 100000; omega) fun μ3 E3 m3 a3 => ?_
    unfold F_X4_advance_L144
    have p3 : mI μ3 (64 * 4 + 5) (b + 1) = q_i3 p := by rw [m3.1.i _ rfl]; exact p2
    rw [wp_bn, xgI4 E3.1, p3, wp_bn, xgI4 E3.1, show mI μ3 (64 * 4 + 4) (b + 1) = q_i3 (rnL isLt tp L p) from a3, wp_bn, xpR4 E3.1, wp_bn]
    refine c_wordFrom E3 re.2 re.1 ?_
    obtain ⟨w, ew⟩ : ∃ w, w = q_wix WDC 0 (slc tp p (rnL isLt tp L p)) := ⟨_, rfl⟩
    have w18 : w ≠ 18 := by
      rcases wix_r WDC 0 (slc tp p (rnL isLt tp L p)) with h | ⟨j, _, h2, h3⟩
      · rw [ew, h]; decide
      · have : j < 16 := h2
        rw [ew, h3]; intro z
        have := (i3_eq (b := 18) (by omega) (by omega)).mp z
        omega
    have w16 : w ≠ 16 := by
      rcases wix_r WDC 0 (slc tp p (rnL isLt tp L p)) with h | ⟨j, _, h2, h3⟩
      · rw [ew, h]; decide
      · have : j < 16 := h2
        rw [ew, h3]; intro z
        have := (i3_eq (b := 16) (by omega) (by omega)).mp z
        omega
    rw [← ew, wp_bn, xwI4 E3.1]
    have m4 : Md [262] μ3 (sI μ3 (64 * 4 + 6) (b + 1) w) := Md.sI (by rw [kk4 E3.1]; omega)
    obtain ⟨μ4, e4⟩ : ∃ μ4, μ4 = sI μ3 (64 * 4 + 6) (b + 1) w := ⟨_, rfl⟩
    have w4 : mI μ4 262 (b + 1) = w := by rw [e4, mI_sI', if_pos ⟨rfl, rfl⟩]
    rw [← e4] at m4 ⊢
    have E4 := E3.md m4 rfl
    have m34 := m3.tr m4
    have m14 := (m12.tr m34).wk (T := AT') rfl
    rw [wp_bn, xgI4 E4.1, show mI μ4 (64 * 4 + 6) (b + 1) = w from w4, wp_ite]
    unfold F_X4_advance_L174
    by_cases hb : w = -1
    · rw [if_neg (fun z => z hb), wp_bn, xpR4 E4.1, wp_bn]
      refine q_wp_mono (c_ref1 (p := p) E4.1 (by rw [w4]; exact w18) (by rw [m4.1.i 261 rfl]; exact p3)) ?_
      rintro _ ν ⟨m5, B5⟩
      rw [wp_rt]
      exact ⟨(m14.tr m5).wk rfl, fun _ => B5, fun z => absurd hb z⟩
    · rw [if_pos hb, wp_bn, xpR4 E4.1, wp_bn, wp_eq c_ref0, wp_rt]
      exact ⟨m14, fun z => absurd z hb, fun _ => ⟨by rw [m4.1.i 260 rfl]; exact a3, by rw [m4.1.i 261 rfl]; exact p3, w4, fun z => absurd z w16, by rw [m34.1.i 258 rfl]; exact f2.1, by rw [m34.1.i 259 rfl]; exact f2.2.1⟩⟩
  rw [if_neg hl, if_pos rfl, wp_bn, xgP4_0 E2.1, wp_bn, xgI4 E2.1, a2, wp_bn, xl115 E2.1, inA_i3 (by omega), i3_toNat (by omega), tv]
  refine ⟨by omega, ?_⟩
  rw [wp_bn, wp_eq c_isDigit, wp_ite]
  by_cases hd : isDg (tp p) = true
  · 
    have ek : lkC' tp L p = if nmC tp (L - p) p 0 ≤ 999999 then 16 else -1 := by unfold lkC'; rw [if_neg (by omega), if_neg hl, if_pos hd]
    have en : lnC tp L p = rnL isDg tp L p := by unfold lnC; rw [if_neg (by omega), if_neg hl, if_pos hd]
    rw [ek, en, if_pos hd, if_neg (by decide), wp_bn, xpR4 E2.1, wp_bn]
    unfold F_X4_readNumber
    rw [wp_bn, xwI4 E2.1]
    have m3 : Md [263] μ2 (sI μ2 (64 * 4 + 7) (b + 1) 0) := Md.sI k2
    have E3 := E2.md m3 rfl
    refine c_digits (L - p) p FU 0 _ E3 (by rw [m3.1.i 260 rfl]; exact a2) (by rw [mI_sI', if_pos ⟨rfl, rfl⟩]) (by omega) (by show _ < 100000; omega) fun μ4 E4 m4 a4 v4 => ?_
    unfold F_X4_readNumber_L73
    rw [wp_bn, xwI4 E4.1]
    have m5 : Md [262] μ4 (sI μ4 (64 * 4 + 6) (b + 1) 16) := Md.sI (by rw [kk4 E4.1]; omega)
    obtain ⟨μ5, e5⟩ : ∃ μ5, μ5 = sI μ4 (64 * 4 + 6) (b + 1) 16 := ⟨_, rfl⟩
    have w5 : mI μ5 262 (b + 1) = 16 := by rw [e5, mI_sI', if_pos ⟨rfl, rfl⟩]
    rw [← e5] at m5 ⊢
    have E5 := E4.md m5 rfl
    have m35 := (m3.tr m4).tr m5
    have m15 := (m12.tr m35).wk (T := AT') rfl
    have p5 : mI μ5 261 (b + 1) = q_i3 p := by rw [m35.1.i 261 rfl]; exact p2
    have v5 : mI μ5 263 (b + 1) = nmC tp (L - p) p 0 := by rw [m5.1.i 263 rfl]; exact v4
    rw [wp_bn, xgI4 E5.1, show mI μ5 (64 * 4 + 7) (b + 1) = nmC tp (L - p) p 0 from v5, wp_ite]
    by_cases hb : nmC tp (L - p) p 0 ≤ 999999
    · rw [if_pos hb, if_pos hb, wp_bn, xpR4 E5.1, wp_bn, wp_eq c_ref0, wp_rt, wp_rt]
      exact ⟨m15, fun z => absurd z (by decide), fun _ => ⟨by rw [m5.1.i 260 rfl]; exact a4, p5, w5, fun _ => v5, by rw [m35.1.i 258 rfl]; exact f2.1, by rw [m35.1.i 259 rfl]; exact f2.2.1⟩⟩
    · rw [if_neg hb, if_neg hb, wp_bn, xpR4 E5.1, wp_bn]
      refine q_wp_mono (c_ref1 (p := p) E5.1 (by rw [w5]; decide) p5) ?_
      rintro _ ν ⟨m6, B6⟩
      rw [wp_rt, wp_rt]
      exact ⟨(m15.tr m6).wk rfl, fun _ => B6, fun z => absurd rfl z⟩
  rw [if_neg hd, if_pos rfl]
  obtain ⟨t, v, h1, hX⟩ := E2.2.1.2.1.tx (i := 1) (by omega)
  rw [wp_bn, wp_cK, show mT μ2 2 = some t from h1, wp_bn, xgP4_0 E2.1, wp_bn, xgI4 E2.1, a2, wp_bn, xl115 E2.1, inA_i3 (by omega), i3_toNat (by omega), tv]
  refine ⟨by omega, ?_⟩
  rw [wp_bn, wp_kRc hX, wp_bn]
  refine t_sign hX fun r hr => ?_
  rw [wp_ite]
  by_cases hs : q_sgn (tp p) = true
  · have ek : lkC' tp L p = tp p := by unfold lkC'; rw [if_neg (by omega), if_neg hl, if_neg hd, if_pos hs]
    have en : lnC tp L p = p + 1 := by unfold lnC; rw [if_neg (by omega), if_neg hl, if_neg hd]
    have y16 : ∀ y, y ∈ tx 1 → y ≠ 16 ∧ y ≠ -1 := by decide
    obtain ⟨s16, s1⟩ := y16 _ (List.contains_iff_mem.mp hs)
    rw [ek, en, if_neg (fun z => by rw [hr.mp z] at hs; cases hs), wp_bn, xgP4_0 E2.1, wp_bn, xgI4 E2.1, a2, wp_bn, xl115 E2.1, inA_i3 (by omega), i3_toNat (by omega), tv]
    refine ⟨by omega, ?_⟩
    rw [wp_bn, xwI4 E2.1]
    have m3 : Md [262] μ2 (sI μ2 (64 * 4 + 6) (b + 1) (tp p)) := Md.sI k2
    have E3 := E2.md m3 rfl
    rw [wp_bn, xgI4 E3.1, show mI (sI μ2 (64 * 4 + 6) (b + 1) (tp p)) (64 * 4 + 4) (b + 1) = q_i3 p by rw [m3.1.i _ rfl]; exact a2, i3_1, wp_bn, xwI4 E3.1, wp_rt]
    obtain ⟨m4, E4, h4⟩ := sAt (q := p + 1) E3
    have m34 := m3.tr m4
    exact ⟨(m12.tr m34).wk rfl, fun z => absurd z s1, fun _ => ⟨h4, by rw [m34.1.i 261 rfl]; exact p2, by rw [m4.1.i 262 rfl, mI_sI', if_pos ⟨rfl, rfl⟩], fun z => absurd z s16, by rw [m34.1.i 258 rfl]; exact f2.1, by rw [m34.1.i 259 rfl]; exact f2.2.1⟩⟩
  · have ek : lkC' tp L p = -1 := by unfold lkC'; rw [if_neg (by omega), if_neg hl, if_neg hd, if_neg hs]
    rw [ek, if_pos (hr.mpr (by simpa using hs)), wp_bn, xpR4 E2.1, wp_bn]
    refine q_wp_mono (c_ref1 (p := p) E2.1 f2.2.2 p2) ?_
    rintro _ ν ⟨m3, B3⟩
    rw [wp_rt]
    exact ⟨(m12.tr m3).wk rfl, fun _ => B3, fun z => absurd rfl z⟩
