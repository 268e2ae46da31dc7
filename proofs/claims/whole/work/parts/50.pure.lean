def q_wp {α : Type} (x : M α) (μ : Mem) (Q : α → Mem → Prop) : Prop := ∃ a μ', x μ = some (a, μ') ∧ Q a μ'
theorem wp_rt {α : Type} {a : α} {μ : Mem} {Q : α → Mem → Prop} : q_wp (rt a) μ Q ↔ Q a μ := ⟨fun ⟨_, _, h, q⟩ => by cases h; exact q, fun h => ⟨_, _, rfl, h⟩⟩
theorem wp_bn {α β : Type} {x : M α} {f : α → M β} {μ : Mem} {Q : β → Mem → Prop} : q_wp (bn x f) μ Q ↔ q_wp x μ (fun a μ' => q_wp (f a) μ' Q) := by
  constructor
  · rintro ⟨b, μ', h, q⟩
    unfold bn at h
    cases hx : x μ with
    | none => rw [hx] at h; cases h
    | some w => rw [hx] at h; exact ⟨w.1, w.2, by rw [hx], b, μ', h, q⟩
  · rintro ⟨a, μ1, h1, b, μ', h2, q⟩
    exact ⟨b, μ', by unfold bn; rw [h1]; exact h2, q⟩
theorem q_wp_mono {α : Type} {x : M α} {μ : Mem} {Q Q' : α → Mem → Prop} (h : q_wp x μ Q) (hq : ∀ a μ', Q a μ' → Q' a μ') : q_wp x μ Q' := by
  obtain ⟨a, μ', h1, h2⟩ := h
  exact ⟨a, μ', h1, hq a μ' h2⟩
theorem wp_eq {α : Type} {x : M α} {μ μ1 : Mem} {v : α} (h : x μ = some (v, μ1)) {Q : α → Mem → Prop} : q_wp x μ Q ↔ Q v μ1 := ⟨fun ⟨_, _, h1, q⟩ => by rw [h] at h1; cases h1; exact q, fun q => ⟨_, _, h, q⟩⟩
theorem eq_wp {α : Type} {x : M α} {μ μ1 : Mem} {v : α} (h : q_wp x μ (fun a μ' => a = v ∧ μ' = μ1)) : x μ = some (v, μ1) := by
  obtain ⟨a, μ', h1, rfl, rfl⟩ := h
  exact h1
theorem ex_some {α : Type} {x : α} {μ' : Mem} {Q : α → Mem → Prop} : (∃ a μ1, some (x, μ') = some (a, μ1) ∧ Q a μ1) ↔ Q x μ' := ⟨fun ⟨_, _, h, q⟩ => by cases h; exact q, fun q => ⟨_, _, rfl, q⟩⟩
theorem ex_none {α : Type} {Q : α → Mem → Prop} : (∃ a μ1, (none : Option (α × Mem)) = some (a, μ1) ∧ Q a μ1) ↔ False := ⟨fun ⟨_, _, h, _⟩ => (by cases h), fun q => False.elim q⟩
theorem wp_if {α : Type} {c : Prop} [Decidable c] {x : α} {μ' : Mem} {Q : α → Mem → Prop} : (∃ a μ1, (if c then some (x, μ') else none) = some (a, μ1) ∧ Q a μ1) ↔ c ∧ Q x μ' := by
  by_cases h : c
  · simp only [h, if_true, true_and, ex_some]
  · simp only [h, if_false, false_and, ex_none]
theorem wp_pRc {c a : Nat} {μ : Mem} {Q : Nat → Mem → Prop} : q_wp (pRc c (some a)) μ Q ↔ mK μ a = c + 1 ∧ Q a μ := by
  unfold q_wp pRc; simp only [wp_if]
theorem wp_pArr {k a : Nat} {μ : Mem} {Q : Nat → Mem → Prop} : q_wp (pArr k (some a)) μ Q ↔ mK μ a = k ∧ Q a μ := by
  unfold q_wp pArr; simp only [wp_if]
theorem wp_fn {α : Type} {f : Mem → α} {g : Mem → Mem} {μ : Mem} {Q : α → Mem → Prop} : q_wp (fun μ => some (f μ, g μ)) μ Q ↔ Q (f μ) (g μ) := ex_some
theorem wp_gI {c k a : Nat} {μ : Mem} {Q : Int32 → Mem → Prop} : q_wp (gI c k (some a)) μ Q ↔ mK μ a = c + 1 ∧ Q (mI μ (64 * c + k) a) μ := by
  unfold gI; rw [wp_bn, wp_pRc]; simp only [q_wp, ex_some]
theorem wp_gL {c k a : Nat} {μ : Mem} {Q : Int64 → Mem → Prop} : q_wp (gLg c k (some a)) μ Q ↔ mK μ a = c + 1 ∧ Q (mL μ (64 * c + k) a) μ := by
  unfold gLg; rw [wp_bn, wp_pRc]; simp only [q_wp, ex_some]
theorem wp_gP {c k a : Nat} {μ : Mem} {Q : Option Nat → Mem → Prop} : q_wp (gP c k (some a)) μ Q ↔ mK μ a = c + 1 ∧ Q (mP μ (64 * c + k) a) μ := by
  unfold gP; rw [wp_bn, wp_pRc]; simp only [q_wp, ex_some]
theorem wp_wI {c k a : Nat} {v : Int32} {μ : Mem} {Q : Unit → Mem → Prop} : q_wp (wI c k (some a) v) μ Q ↔ mK μ a = c + 1 ∧ Q () (sI μ (64 * c + k) a v) := by
  unfold wI; rw [wp_bn, wp_pRc]; simp only [q_wp, ex_some]
theorem wp_wL {c k a : Nat} {v : Int64} {μ : Mem} {Q : Unit → Mem → Prop} : q_wp (wL c k (some a) v) μ Q ↔ mK μ a = c + 1 ∧ Q () (sL μ (64 * c + k) a v) := by
  unfold wL; rw [wp_bn, wp_pRc]; simp only [q_wp, ex_some]
theorem wp_wP {c k a : Nat} {v : Option Nat} {μ : Mem} {Q : Unit → Mem → Prop} : q_wp (wP c k (some a) v) μ Q ↔ mK μ a = c + 1 ∧ Q () (sP μ (64 * c + k) a v) := by
  unfold wP; rw [wp_bn, wp_pRc]; simp only [q_wp, ex_some]
theorem wp_wZ {c k a : Nat} {v : Int32} {μ : Mem} {Q : Unit → Mem → Prop} : q_wp (wZ c k (some a) v) μ Q ↔ mK μ a = c + 1 ∧ (v = 0 ∨ v = 1) ∧ Q () (sI μ (64 * c + k) a v) := by
  unfold wZ; rw [wp_bn, wp_pRc]; simp only [q_wp, wp_if]
theorem wp_ite {α : Type} {c : Prop} [Decidable c] {x y : M α} {μ : Mem} {Q : α → Mem → Prop} : q_wp (if c then x else y) μ Q ↔ if c then q_wp x μ Q else q_wp y μ Q := by
  by_cases h : c <;> simp [h]
theorem wp_rz {v : Int32} {μ : Mem} {Q : Int32 → Mem → Prop} : q_wp (rz v) μ Q ↔ (v = 0 ∨ v = 1) ∧ Q v μ := by
  unfold rz; simp only [q_wp, wp_if]
theorem wp_cst {c a : Nat} {μ : Mem} {Q : Unit → Mem → Prop} : q_wp (cst c (some a)) μ Q ↔ mK μ a = c + 1 ∧ Q () μ := by
  unfold cst; simp only [q_wp, wp_if]
theorem wp_cst0 {c : Nat} {μ : Mem} {Q : Unit → Mem → Prop} : q_wp (cst c none) μ Q ↔ Q () μ := by
  unfold cst; simp only [q_wp, ex_some]
theorem wp_cK {i : Nat} {μ : Mem} {Q : Option Nat → Mem → Prop} : q_wp (cK i) μ Q ↔ Q (mT μ i) μ := by
  unfold cK; simp only [q_wp, ex_some]
theorem wp_lI {k a : Nat} {i : Int32} {μ : Mem} {Q : Int32 → Mem → Prop} : q_wp (lI k (some a) i) μ Q ↔ mK μ a = k ∧ inA i (mN μ a) ∧ Q (aI μ k a i.toNatClampNeg) μ := by
  unfold lI; rw [wp_bn, wp_pArr]; simp only [q_wp, wp_if]; rfl
theorem wp_lL {k a : Nat} {i : Int32} {μ : Mem} {Q : Int64 → Mem → Prop} : q_wp (lL k (some a) i) μ Q ↔ mK μ a = k ∧ inA i (mN μ a) ∧ Q (aL μ k a i.toNatClampNeg) μ := by
  unfold lL; rw [wp_bn, wp_pArr]; simp only [q_wp, wp_if]; rfl
theorem wp_lP {k a : Nat} {i : Int32} {μ : Mem} {Q : Option Nat → Mem → Prop} : q_wp (lP k (some a) i) μ Q ↔ mK μ a = k ∧ inA i (mN μ a) ∧ Q (aP μ k a i.toNatClampNeg) μ := by
  unfold lP; rw [wp_bn, wp_pArr]; simp only [q_wp, wp_if]; rfl
theorem wp_stI {k a : Nat} {i v : Int32} {μ : Mem} {Q : Unit → Mem → Prop} : q_wp (stI k (some a) i v) μ Q ↔ mK μ a = k ∧ inA i (mN μ a) ∧ Q () (tI μ k a i.toNatClampNeg v) := by
  unfold stI; rw [wp_bn, wp_pArr]; simp only [q_wp, wp_if]; rfl
theorem wp_stL {k a : Nat} {i : Int32} {v : Int64} {μ : Mem} {Q : Unit → Mem → Prop} : q_wp (stL k (some a) i v) μ Q ↔ mK μ a = k ∧ inA i (mN μ a) ∧ Q () (tL μ k a i.toNatClampNeg v) := by
  unfold stL; rw [wp_bn, wp_pArr]; simp only [q_wp, wp_if]; rfl
theorem wp_stZ {k a : Nat} {i v : Int32} {μ : Mem} {Q : Unit → Mem → Prop} : q_wp (stZ k (some a) i v) μ Q ↔ mK μ a = k ∧ (inA i (mN μ a) ∧ vp_nar .boolean v = v) ∧ Q () (tI μ k a i.toNatClampNeg v) := by
  unfold stZ; rw [wp_bn, wp_pArr]; simp only [q_wp, wp_if]; rfl
theorem wp_stC {k a : Nat} {i v : Int32} {μ : Mem} {Q : Unit → Mem → Prop} : q_wp (stC k (some a) i v) μ Q ↔ mK μ a = k ∧ (inA i (mN μ a) ∧ vp_nar .char v = v) ∧ Q () (tI μ k a i.toNatClampNeg v) := by
  unfold stC; rw [wp_bn, wp_pArr]; simp only [q_wp, wp_if]; rfl
theorem wp_stP {k c a : Nat} {i : Int32} {v : Option Nat} {μ : Mem} {Q : Unit → Mem → Prop} : q_wp (stP k c (some a) i v) μ Q ↔ mK μ a = k ∧ (inA i (mN μ a) ∧ (v = none ∨ mK μ (v.getD 0) = c + 1)) ∧ Q () (tP μ k a i.toNatClampNeg v) := by
  unfold stP; rw [wp_bn, wp_pArr]; simp only [q_wp, wp_if]; rfl
theorem wp_stO {k a : Nat} {i : Int32} {v : Option Nat} {μ : Mem} {Q : Unit → Mem → Prop} : q_wp (stO k (some a) i v) μ Q ↔ mK μ a = k ∧ (inA i (mN μ a) ∧ (v = none ∨ (1 ≤ mK μ (v.getD 0) ∧ mK μ (v.getD 0) ≤ 13))) ∧ Q () (tP μ k a i.toNatClampNeg v) := by
  unfold stO; rw [wp_bn, wp_pArr]; simp only [q_wp, wp_if]; rfl
theorem wp_len {a : Nat} {μ : Mem} {Q : Int32 → Mem → Prop} : q_wp (len (some a)) μ Q ↔ if some a = mT μ 0 then Q 0 μ else 64 ≤ mK μ a ∧ Q (Int32.ofNat (mN μ a)) μ := by
  unfold len q_wp
  by_cases h : some a = mT μ 0
  · simp only [h, if_true, ex_some]
  · simp only [h, if_false, wp_if]
theorem wp_dvI {x y : Int32} {μ : Mem} {Q : Int32 → Mem → Prop} : q_wp (dvI x y) μ Q ↔ ¬ y = 0 ∧ Q (x / y) μ := by
  unfold dvI; by_cases h : y = 0 <;> simp only [q_wp, h, if_true, if_false, not_true, not_false_iff, false_and, true_and, ex_some, ex_none]
theorem wp_rmI {x y : Int32} {μ : Mem} {Q : Int32 → Mem → Prop} : q_wp (rmI x y) μ Q ↔ ¬ y = 0 ∧ Q (x - x / y * y) μ := by
  unfold rmI; by_cases h : y = 0 <;> simp only [q_wp, h, if_true, if_false, not_true, not_false_iff, false_and, true_and, ex_some, ex_none]
theorem wp_thr {α : Type} {μ : Mem} {Q : Option α → Mem → Prop} : q_wp thr μ Q ↔ Q none (nE μ) := by
  unfold thr; simp only [q_wp, ex_some]
def q_i3 (n : Nat) : Int32 := Int32.ofNat n
theorem i3_toInt {n : Nat} (h : n < 2147483648) : (q_i3 n).toInt = (n : Int) := Int32.toInt_ofNat_of_lt h
theorem i3_toNat {n : Nat} (h : n < 2147483648) : (q_i3 n).toNatClampNeg = n := by
  have := i3_toInt h
  unfold Int32.toNatClampNeg
  rw [this]; rfl
theorem i3_add (a b : Nat) : q_i3 a + q_i3 b = q_i3 (a + b) := by unfold q_i3; exact (Int32.ofNat_add a b).symm
theorem i3_mul (a b : Nat) : q_i3 a * q_i3 b = q_i3 (a * b) := by unfold q_i3; exact (Int32.ofNat_mul a b).symm
theorem i3_lit (n : Nat) [OfNat Int32 n] : True := trivial
theorem i3_of (n : Nat) : (OfNat.ofNat n : Int32) = q_i3 n := rfl
theorem i3_1 (a : Nat) : q_i3 a + 1 = q_i3 (a + 1) := i3_add a 1
theorem i3_addL (a n : Nat) : q_i3 a + (OfNat.ofNat n : Int32) = q_i3 (a + n) := i3_add a n
theorem i3_mulL (a n : Nat) : (OfNat.ofNat n : Int32) * q_i3 a = q_i3 (n * a) := i3_mul n a
theorem i3_mulR (a n : Nat) : q_i3 a * (OfNat.ofNat n : Int32) = q_i3 (a * n) := i3_mul a n
theorem i3_lt {a b : Nat} (ha : a < 2147483648) (hb : b < 2147483648) : q_i3 a < q_i3 b ↔ a < b := by
  rw [Int32.lt_iff_toInt_lt, i3_toInt ha, i3_toInt hb]; omega
theorem i3_le {a b : Nat} (ha : a < 2147483648) (hb : b < 2147483648) : q_i3 a ≤ q_i3 b ↔ a ≤ b := by
  rw [Int32.le_iff_toInt_le, i3_toInt ha, i3_toInt hb]; omega
theorem i3_eq {a b : Nat} (ha : a < 2147483648) (hb : b < 2147483648) : q_i3 a = q_i3 b ↔ a = b := by
  rw [← Int32.toInt_inj, i3_toInt ha, i3_toInt hb]; omega
theorem i3_nn {a : Nat} (ha : a < 2147483648) : ¬ q_i3 a < 0 := by
  rw [Int32.lt_iff_toInt_lt, i3_toInt ha]; show ¬ (a : Int) < 0; omega
theorem inA_i3 {a n : Nat} (ha : a < 2147483648) : inA (q_i3 a) n ↔ a < n := by
  unfold inA; rw [i3_toNat ha]
  have := i3_nn ha
  constructor
  · intro h; exact Nat.lt_of_not_le fun q => h (Or.inr q)
  · rintro h (q | q)
    · exact this q
    · omega
theorem i3_sub {a b : Nat} (h : b ≤ a) : q_i3 a - q_i3 b = q_i3 (a - b) := by
  have : a = (a - b) + b := by omega
  rw [this, ← i3_add]
  have : a - b + b - b = a - b := by omega
  rw [this]
  exact Int32.add_sub_cancel _ _
theorem i3_of_nn {x : Int32} (h : ¬ x < 0) : ∃ n : Nat, n < 2147483648 ∧ x = q_i3 n := by
  refine ⟨x.toInt.toNat, ?_, ?_⟩
  · have := x.toInt_lt; omega
  · rw [Int32.lt_iff_toInt_lt] at h
    have h0 : (0 : Int32).toInt = 0 := rfl
    rw [h0] at h
    apply Int32.toInt_inj.mp
    rw [i3_toInt (by have := x.toInt_lt; omega)]
    omega
theorem i3m2 (a : Nat) : (2 : Int32) * q_i3 a = q_i3 (2 * a) := i3_mul 2 a
theorem i3m4 (a : Nat) : (4 : Int32) * q_i3 a = q_i3 (4 * a) := i3_mul 4 a
theorem i3m5 (a : Nat) : (5 : Int32) * q_i3 a = q_i3 (5 * a) := i3_mul 5 a
theorem i3m6 (a : Nat) : (6 : Int32) * q_i3 a = q_i3 (6 * a) := i3_mul 6 a
theorem i3m7 (a : Nat) : (7 : Int32) * q_i3 a = q_i3 (7 * a) := i3_mul 7 a
theorem i3m12 (a : Nat) : (12 : Int32) * q_i3 a = q_i3 (12 * a) := i3_mul 12 a
theorem i3m60 (a : Nat) : (60 : Int32) * q_i3 a = q_i3 (60 * a) := i3_mul 60 a
theorem i3m72 (a : Nat) : (72 : Int32) * q_i3 a = q_i3 (72 * a) := i3_mul 72 a
theorem i3m1600 (a : Nat) : (1600 : Int32) * q_i3 a = q_i3 (1600 * a) := i3_mul 1600 a
theorem i3r6 (a : Nat) : q_i3 a * (6 : Int32) = q_i3 (a * 6) := i3_mul a 6
theorem i3p1 (a : Nat) : q_i3 a + (1 : Int32) = q_i3 (a + 1) := i3_add a 1
theorem i3p2 (a : Nat) : q_i3 a + (2 : Int32) = q_i3 (a + 2) := i3_add a 2
theorem i3p3 (a : Nat) : q_i3 a + (3 : Int32) = q_i3 (a + 3) := i3_add a 3
theorem i3p4 (a : Nat) : q_i3 a + (4 : Int32) = q_i3 (a + 4) := i3_add a 4
theorem i3p5 (a : Nat) : q_i3 a + (5 : Int32) = q_i3 (a + 5) := i3_add a 5
theorem i3p6 (a : Nat) : q_i3 a + (6 : Int32) = q_i3 (a + 6) := i3_add a 6
theorem i3p7 (a : Nat) : q_i3 a + (7 : Int32) = q_i3 (a + 7) := i3_add a 7
theorem i3p8 (a : Nat) : q_i3 a + (8 : Int32) = q_i3 (a + 8) := i3_add a 8
theorem i3p9 (a : Nat) : q_i3 a + (9 : Int32) = q_i3 (a + 9) := i3_add a 9
theorem i3p20 (a : Nat) : q_i3 a + (20 : Int32) = q_i3 (a + 20) := i3_add a 20

def Zz (μ : Mem) : Prop := ∀ a, mX μ ≤ a → (∀ f, mI μ f a = 0) ∧ (∀ f, mL μ f a = 0) ∧ (∀ f, mP μ f a = none) ∧ (∀ k i, aI μ k a i = 0) ∧ (∀ k i, aL μ k a i = 0) ∧ (∀ k i, aP μ k a i = none) ∧ mK μ a = 0 ∧ mN μ a = 0
def q_al (k n s : Nat) (μ : Mem) : Mem := (mI μ, mL μ, mP μ, aI μ, aL μ, aP μ, fun b => if b = mX μ then k else mK μ b, fun b => if b = mX μ then n else mN μ b, mX μ + 1, mS μ + s, mT μ)
theorem mI_al (k n s : Nat) (μ : Mem) : mI (q_al k n s μ) = mI μ := rfl
theorem mL_al (k n s : Nat) (μ : Mem) : mL (q_al k n s μ) = mL μ := rfl
theorem mP_al (k n s : Nat) (μ : Mem) : mP (q_al k n s μ) = mP μ := rfl
theorem aI_al (k n s : Nat) (μ : Mem) : aI (q_al k n s μ) = aI μ := rfl
theorem aL_al (k n s : Nat) (μ : Mem) : aL (q_al k n s μ) = aL μ := rfl
theorem aP_al (k n s : Nat) (μ : Mem) : aP (q_al k n s μ) = aP μ := rfl
theorem mK_al (k n s : Nat) (μ : Mem) (a : Nat) : mK (q_al k n s μ) a = if a = mX μ then k else mK μ a := rfl
theorem mN_al (k n s : Nat) (μ : Mem) (a : Nat) : mN (q_al k n s μ) a = if a = mX μ then n else mN μ a := rfl
theorem mX_al (k n s : Nat) (μ : Mem) : mX (q_al k n s μ) = mX μ + 1 := rfl
theorem mS_al (k n s : Nat) (μ : Mem) : mS (q_al k n s μ) = mS μ + s := rfl
theorem mT_al (k n s : Nat) (μ : Mem) : mT (q_al k n s μ) = mT μ := rfl
theorem nO_al {c n : Nat} {μ : Mem} (hz : Zz μ) : nO c n μ = q_al (c + 1) 0 n μ := by
  have h := hz (mX μ) (Nat.le_refl _)
  unfold nO q_al
  refine Prod.ext ?_ (Prod.ext ?_ (Prod.ext ?_ (Prod.ext rfl (Prod.ext rfl (Prod.ext rfl (Prod.ext rfl (Prod.ext ?_ rfl)))))))
  · funext f b; show (if b = mX μ then 0 else mI μ f b) = mI μ f b; split <;> simp_all
  · funext f b; show (if b = mX μ then 0 else mL μ f b) = mL μ f b; split <;> simp_all
  · funext f b; show (if b = mX μ then none else mP μ f b) = mP μ f b; split <;> simp_all
  · funext b; show mN μ b = if b = mX μ then 0 else mN μ b; split <;> simp_all
theorem nA_al {k n : Nat} {μ : Mem} (hz : Zz μ) : nA k n μ = q_al k n n μ := by
  have h := hz (mX μ) (Nat.le_refl _)
  unfold nA q_al
  refine Prod.ext rfl (Prod.ext rfl (Prod.ext rfl (Prod.ext ?_ (Prod.ext ?_ (Prod.ext ?_ rfl)))))
  · funext f b i; show (if b = mX μ then 0 else aI μ f b i) = aI μ f b i; split <;> simp_all
  · funext f b i; show (if b = mX μ then 0 else aL μ f b i) = aL μ f b i; split <;> simp_all
  · funext f b i; show (if b = mX μ then none else aP μ f b i) = aP μ f b i; split <;> simp_all
theorem wp_newO {c n : Nat} {μ : Mem} (hz : Zz μ) {Q : Option Nat → Mem → Prop} : q_wp (newO c n) μ Q ↔ Q (some (mX μ)) (q_al (c + 1) 0 n μ) := by
  unfold newO; simp only [q_wp, ex_some, nO_al hz]
theorem wp_newA {k n : Nat} {μ : Mem} (hz : Zz μ) (hn : n ≤ 1000000) {Q : Option Nat → Mem → Prop} : q_wp (newA k (q_i3 n)) μ Q ↔ Q (some (mX μ)) (q_al k n n μ) := by
  have h1 : ¬ q_i3 n < 0 := i3_nn (by omega)
  unfold newA; simp only [q_wp, wp_if, i3_toNat (show n < 2147483648 by omega), h1, not_false_iff, hn, true_and, nA_al hz]
def q_Fr (S : List Nat) (μ ν : Mem) : Prop := (∀ f, f ∉ S → mI ν f = mI μ f ∧ mL ν f = mL μ f ∧ mP ν f = mP μ f) ∧ (∀ k, 2000 + k ∉ S → aI ν k = aI μ k ∧ aL ν k = aL μ k ∧ aP ν k = aP μ k) ∧ mT ν = mT μ ∧ (∀ a, mK μ a ≠ 0 → mK ν a = mK μ a ∧ mN ν a = mN μ a) ∧ mX μ ≤ mX ν ∧ mS μ ≤ mS ν
theorem q_Fr.rf (μ : Mem) : q_Fr [] μ μ := ⟨fun _ _ => ⟨rfl, rfl, rfl⟩, fun _ _ => ⟨rfl, rfl, rfl⟩, rfl, fun _ _ => ⟨rfl, rfl⟩, Nat.le_refl _, Nat.le_refl _⟩
theorem q_Fr.tr {S T : List Nat} {μ ν ρ : Mem} (h : q_Fr S μ ν) (g : q_Fr T ν ρ) : q_Fr (S ++ T) μ ρ := by
  obtain ⟨h1, h2, h3, h4, h5, h6⟩ := h
  obtain ⟨g1, g2, g3, g4, g5, g6⟩ := g
  refine ⟨fun f hf => ?_, fun k hk => ?_, g3.trans h3, fun a ha => ?_, Nat.le_trans h5 g5, Nat.le_trans h6 g6⟩
  · rw [List.mem_append, not_or] at hf
    obtain ⟨a, b, c⟩ := h1 f hf.1
    obtain ⟨a', b', c'⟩ := g1 f hf.2
    exact ⟨a'.trans a, b'.trans b, c'.trans c⟩
  · rw [List.mem_append, not_or] at hk
    obtain ⟨a, b, c⟩ := h2 k hk.1
    obtain ⟨a', b', c'⟩ := g2 k hk.2
    exact ⟨a'.trans a, b'.trans b, c'.trans c⟩
  · obtain ⟨a1, b⟩ := h4 a ha
    obtain ⟨a', b'⟩ := g4 a (by rw [a1]; exact ha)
    exact ⟨a'.trans a1, b'.trans b⟩
def subL (S T : List Nat) : Bool := S.all fun x => T.contains x
theorem q_Fr.wk {S T : List Nat} {μ ν : Mem} (h : q_Fr S μ ν) (hs : subL S T = true) : q_Fr T μ ν := by
  have hh : ∀ x, x ∉ T → x ∉ S := by
    intro x hx hS
    have := (List.all_eq_true.mp hs) x hS
    exact hx (List.contains_iff_mem.mp this)
  exact ⟨fun f hf => h.1 f (hh f hf), fun k hk => h.2.1 k (hh _ hk), h.2.2⟩
theorem q_Fr.i {S : List Nat} {μ ν : Mem} (h : q_Fr S μ ν) (f : Nat) (hf : S.contains f = false) : mI ν f = mI μ f := (h.1 f (by intro q; rw [List.contains_iff_mem.mpr q] at hf; cases hf)).1
theorem q_Fr.l {S : List Nat} {μ ν : Mem} (h : q_Fr S μ ν) (f : Nat) (hf : S.contains f = false) : mL ν f = mL μ f := (h.1 f (by intro q; rw [List.contains_iff_mem.mpr q] at hf; cases hf)).2.1
theorem q_Fr.p {S : List Nat} {μ ν : Mem} (h : q_Fr S μ ν) (f : Nat) (hf : S.contains f = false) : mP ν f = mP μ f := (h.1 f (by intro q; rw [List.contains_iff_mem.mpr q] at hf; cases hf)).2.2
theorem q_Fr.ai {S : List Nat} {μ ν : Mem} (h : q_Fr S μ ν) (f : Nat) (hf : S.contains (2000 + f) = false) : aI ν f = aI μ f := (h.2.1 f (by intro q; rw [List.contains_iff_mem.mpr q] at hf; cases hf)).1
theorem q_Fr.alg {S : List Nat} {μ ν : Mem} (h : q_Fr S μ ν) (f : Nat) (hf : S.contains (2000 + f) = false) : aL ν f = aL μ f := (h.2.1 f (by intro q; rw [List.contains_iff_mem.mpr q] at hf; cases hf)).2.1
theorem q_Fr.ap {S : List Nat} {μ ν : Mem} (h : q_Fr S μ ν) (f : Nat) (hf : S.contains (2000 + f) = false) : aP ν f = aP μ f := (h.2.1 f (by intro q; rw [List.contains_iff_mem.mpr q] at hf; cases hf)).2.2
theorem q_Fr.t {S : List Nat} {μ ν : Mem} (h : q_Fr S μ ν) : mT ν = mT μ := h.2.2.1
theorem q_Fr.k {S : List Nat} {μ ν : Mem} (h : q_Fr S μ ν) {a c : Nat} (ha : mK μ a = c) (hc : c ≠ 0) : mK ν a = c := by
  rw [(h.2.2.2.1 a (by omega)).1, ha]
theorem q_Fr.n {S : List Nat} {μ ν : Mem} (h : q_Fr S μ ν) {a n : Nat} (ha : mK μ a ≠ 0) (hn : mN μ a = n) : mN ν a = n := by
  rw [(h.2.2.2.1 a ha).2, hn]
theorem q_up2_ne {α : Type} {m : Nat → Nat → α} {f a g : Nat} {v : α} (h : g ≠ f) : up2 m f a v g = m g := by
  funext b; unfold up2; simp [h]
theorem q_up3_ne {α : Type} {m : Nat → Nat → Nat → α} {f a i g : Nat} {v : α} (h : g ≠ f) : up3 m f a i v g = m g := by
  funext b j; unfold up3; simp [h]
theorem nm1 {f g : Nat} (h : f ∉ [g]) : f ≠ g := fun q => h (by rw [q]; exact List.mem_singleton.mpr rfl)
theorem q_Fr.sI (μ : Mem) (f a : Nat) (v : Int32) : q_Fr [f] μ (sI μ f a v) := ⟨fun _ h => ⟨q_up2_ne (nm1 h), rfl, rfl⟩, fun _ _ => ⟨rfl, rfl, rfl⟩, rfl, fun _ _ => ⟨rfl, rfl⟩, Nat.le_refl _, Nat.le_refl _⟩
theorem q_Fr.sL (μ : Mem) (f a : Nat) (v : Int64) : q_Fr [f] μ (sL μ f a v) := ⟨fun _ h => ⟨rfl, q_up2_ne (nm1 h), rfl⟩, fun _ _ => ⟨rfl, rfl, rfl⟩, rfl, fun _ _ => ⟨rfl, rfl⟩, Nat.le_refl _, Nat.le_refl _⟩
theorem q_Fr.sP (μ : Mem) (f a : Nat) (v : Option Nat) : q_Fr [f] μ (sP μ f a v) := ⟨fun _ h => ⟨rfl, rfl, q_up2_ne (nm1 h)⟩, fun _ _ => ⟨rfl, rfl, rfl⟩, rfl, fun _ _ => ⟨rfl, rfl⟩, Nat.le_refl _, Nat.le_refl _⟩
theorem q_Fr.tI (μ : Mem) (k a i : Nat) (v : Int32) : q_Fr [2000 + k] μ (tI μ k a i v) := ⟨fun _ h => ⟨rfl, rfl, rfl⟩, fun _ h => ⟨q_up3_ne (fun q => nm1 h (by rw [q])), rfl, rfl⟩, rfl, fun _ _ => ⟨rfl, rfl⟩, Nat.le_refl _, Nat.le_refl _⟩
theorem q_Fr.tL (μ : Mem) (k a i : Nat) (v : Int64) : q_Fr [2000 + k] μ (tL μ k a i v) := ⟨fun _ h => ⟨rfl, rfl, rfl⟩, fun _ h => ⟨rfl, q_up3_ne (fun q => nm1 h (by rw [q])), rfl⟩, rfl, fun _ _ => ⟨rfl, rfl⟩, Nat.le_refl _, Nat.le_refl _⟩
theorem q_Fr.tP (μ : Mem) (k a i : Nat) (v : Option Nat) : q_Fr [2000 + k] μ (tP μ k a i v) := ⟨fun _ h => ⟨rfl, rfl, rfl⟩, fun _ h => ⟨rfl, rfl, q_up3_ne (fun q => nm1 h (by rw [q]))⟩, rfl, fun _ _ => ⟨rfl, rfl⟩, Nat.le_refl _, Nat.le_refl _⟩
theorem q_Fr.nw {μ : Mem} (hz : Zz μ) (k n s : Nat) : q_Fr [] μ (q_al k n s μ) := by
  refine ⟨fun _ _ => ⟨rfl, rfl, rfl⟩, fun _ _ => ⟨rfl, rfl, rfl⟩, rfl, fun a ha => ?_, Nat.le_succ _, Nat.le_add_right _ _⟩
  have hne : a ≠ mX μ := fun q => ha (by rw [q]; exact (hz _ (Nat.le_refl _)).2.2.2.2.2.2.1)
  exact ⟨by rw [mK_al, if_neg hne], by rw [mN_al, if_neg hne]⟩
theorem q_Fr.nE (μ : Mem) : q_Fr [] μ (nE μ) := ⟨fun _ _ => ⟨rfl, rfl, rfl⟩, fun _ _ => ⟨rfl, rfl, rfl⟩, rfl, fun _ _ => ⟨rfl, rfl⟩, Nat.le_succ _, Nat.le_add_right _ _⟩
theorem Zz.lt {μ : Mem} (hz : Zz μ) {a : Nat} (h : mK μ a ≠ 0) : a < mX μ := Nat.lt_of_not_le fun q => h (hz a q).2.2.2.2.2.2.1
theorem Zz.sI {μ : Mem} (hz : Zz μ) {f a : Nat} {v : Int32} (h : mK μ a ≠ 0) : Zz (sI μ f a v) := by
  intro b hb
  have hne : b ≠ a := by have := hz.lt h; have hb : mX μ ≤ b := hb; omega
  obtain ⟨h1, hr⟩ := hz b hb
  exact ⟨fun g => by rw [mI_sI]; unfold up2; simp [hne, h1 g], hr⟩
theorem Zz.sL {μ : Mem} (hz : Zz μ) {f a : Nat} {v : Int64} (h : mK μ a ≠ 0) : Zz (sL μ f a v) := by
  intro b hb
  have hne : b ≠ a := by have := hz.lt h; have hb : mX μ ≤ b := hb; omega
  obtain ⟨h1, h2, hr⟩ := hz b hb
  exact ⟨h1, fun g => by rw [mL_sL]; unfold up2; simp [hne, h2 g], hr⟩
theorem Zz.sP {μ : Mem} (hz : Zz μ) {f a : Nat} {v : Option Nat} (h : mK μ a ≠ 0) : Zz (sP μ f a v) := by
  intro b hb
  have hne : b ≠ a := by have := hz.lt h; have hb : mX μ ≤ b := hb; omega
  obtain ⟨h1, h2, h3, hr⟩ := hz b hb
  exact ⟨h1, h2, fun g => by rw [mP_sP]; unfold up2; simp [hne, h3 g], hr⟩
theorem Zz.tI {μ : Mem} (hz : Zz μ) {k a i : Nat} {v : Int32} (h : mK μ a ≠ 0) : Zz (tI μ k a i v) := by
  intro b hb
  have hne : b ≠ a := by have := hz.lt h; have hb : mX μ ≤ b := hb; omega
  obtain ⟨h1, h2, h3, h4, hr⟩ := hz b hb
  exact ⟨h1, h2, h3, fun g j => by rw [aI_tI]; unfold up3; simp [hne, h4 g j], hr⟩
theorem Zz.tL {μ : Mem} (hz : Zz μ) {k a i : Nat} {v : Int64} (h : mK μ a ≠ 0) : Zz (tL μ k a i v) := by
  intro b hb
  have hne : b ≠ a := by have := hz.lt h; have hb : mX μ ≤ b := hb; omega
  obtain ⟨h1, h2, h3, h4, h5, hr⟩ := hz b hb
  exact ⟨h1, h2, h3, h4, fun g j => by rw [aL_tL]; unfold up3; simp [hne, h5 g j], hr⟩
theorem Zz.tP {μ : Mem} (hz : Zz μ) {k a i : Nat} {v : Option Nat} (h : mK μ a ≠ 0) : Zz (tP μ k a i v) := by
  intro b hb
  have hne : b ≠ a := by have := hz.lt h; have hb : mX μ ≤ b := hb; omega
  obtain ⟨h1, h2, h3, h4, h5, h6, hr⟩ := hz b hb
  exact ⟨h1, h2, h3, h4, h5, fun g j => by rw [aP_tP]; unfold up3; simp [hne, h6 g j], hr⟩
theorem Zz.nw {μ : Mem} (hz : Zz μ) (k n s : Nat) : Zz (q_al k n s μ) := by
  intro b hb
  rw [mX_al] at hb
  obtain ⟨h1, h2, h3, h4, h5, h6, h7, h8⟩ := hz b (by omega)
  refine ⟨h1, h2, h3, h4, h5, h6, ?_, ?_⟩
  · rw [mK_al, if_neg (by omega)]; exact h7
  · rw [mN_al, if_neg (by omega)]; exact h8
theorem Zz.nE {μ : Mem} (hz : Zz μ) : Zz (nE μ) := fun b hb => hz b (by have hb : mX μ + 1 ≤ b := hb; omega)
theorem mI_sI' (μ : Mem) (f a : Nat) (v : Int32) (g b : Nat) : mI (sI μ f a v) g b = if g = f ∧ b = a then v else mI μ g b := rfl
theorem mL_sL' (μ : Mem) (f a : Nat) (v : Int64) (g b : Nat) : mL (sL μ f a v) g b = if g = f ∧ b = a then v else mL μ g b := rfl
theorem mP_sP' (μ : Mem) (f a : Nat) (v : Option Nat) (g b : Nat) : mP (sP μ f a v) g b = if g = f ∧ b = a then v else mP μ g b := rfl
theorem aI_tI' (μ : Mem) (k a i : Nat) (v : Int32) (g b j : Nat) : aI (tI μ k a i v) g b j = if g = k ∧ b = a ∧ j = i then v else aI μ g b j := rfl
theorem aL_tL' (μ : Mem) (k a i : Nat) (v : Int64) (g b j : Nat) : aL (tL μ k a i v) g b j = if g = k ∧ b = a ∧ j = i then v else aL μ g b j := rfl
theorem aP_tP' (μ : Mem) (k a i : Nat) (v : Option Nat) (g b j : Nat) : aP (tP μ k a i v) g b j = if g = k ∧ b = a ∧ j = i then v else aP μ g b j := rfl
theorem wp_loop {σ γ : Type} (L : Nat → Nat → σ → M γ) (n : Nat) (I : Nat → σ → Mem → Prop) (Q : γ → Mem → Prop)
    (hend : ∀ f s μ, I n s μ → q_wp (L (f + 1) n s) μ Q)
    (hstep : ∀ f k s μ, k < n → I k s μ → (∀ s' μ', I (k + 1) s' μ' → q_wp (L f (k + 1) s') μ' Q) → q_wp (L (f + 1) k s) μ Q) :
    ∀ f k s μ, k ≤ n → n - k < f → I k s μ → q_wp (L f k s) μ Q := by
  intro f
  induction f with
  | zero => intro k s μ _ h; omega
  | succ f ih =>
    intro k s μ hk hf hI
    by_cases hkn : k = n
    · subst hkn; exact hend f s μ hI
    · exact hstep f k s μ (by omega) hI fun s' μ' h' => ih (k + 1) s' μ' (by omega) (by omega) h'

def ed (μ : Mem) (a : Nat) : Nat := (mP μ 833 a).getD 0
def q_lst (μ : Mem) (a : Nat) : List Nat := (List.range (mI μ 834 a).toNatClampNeg).map fun i => (aP μ 372 (ed μ a) i).getD 0
def LOk (μ : Mem) (a : Nat) : Prop := ∃ n, mI μ 834 a = q_i3 n ∧ n ≤ 100000 ∧ ((mP μ 833 a = mT μ 0 ∧ n = 0) ∨ (∃ e, mP μ 833 a = some e ∧ some e ≠ mT μ 0 ∧ mK μ e = 372 ∧ n ≤ mN μ e ∧ 0 < mN μ e ∧ mN μ e ≤ 1000000 ∧ ∀ i, i < n → ∃ r, aP μ 372 e i = some r ∧ 1 ≤ mK μ r ∧ mK μ r ≤ 13))
def TT (μ : Mem) : Prop := (∃ t, mT μ 0 = some t ∧ t < mX μ ∧ mK μ t = 0) ∧ (∃ t, mT μ 40 = some t) ∧ (∃ t1 t2 t3, mT μ 1 = some t1 ∧ mT μ 2 = some t2 ∧ mT μ 3 = some t3 ∧ t1 ≠ t2 ∧ t1 ≠ t3 ∧ t2 ≠ t3) ∧ (∃ t1 t2 t3, mT μ 11 = some t1 ∧ mT μ 12 = some t2 ∧ mT μ 13 = some t3 ∧ t1 ≠ t2 ∧ t1 ≠ t3 ∧ t2 ≠ t3)
def WF (μ : Mem) : Prop := Zz μ ∧ TT μ ∧ (∀ a, mK μ a = 14 → LOk μ a) ∧ (∀ a b, mK μ a = 14 → mK μ b = 14 → a ≠ b → mP μ 833 a = mP μ 833 b → mP μ 833 a = mT μ 0) ∧ (∀ a b, mK μ a = 14 → mK μ b = 14 → ∀ r, r ∈ q_lst μ a → r ∈ q_lst μ b → a = b) ∧ (∀ a, mK μ a = 14 → (q_lst μ a).Nodup)
theorem lst_eq {μ : Mem} {a e : Nat} {l : List Nat} (he : mP μ 833 a = some e) (hn : mI μ 834 a = q_i3 l.length) (hl : l.length < 2147483648) (hel : ∀ i, i < l.length → aP μ 372 e i = some (l.getD i 0)) : q_lst μ a = l := by
  unfold q_lst ed
  rw [he, hn, i3_toNat hl]
  apply List.ext_getElem
  · simp
  · intro i h1 h2
    simp only [List.getElem_map, List.getElem_range, Option.getD_some]
    rw [hel i h2, List.getD_eq_getElem?_getD, List.getElem?_eq_getElem h2]
    rfl
theorem lst_congr {μ ν : Mem} (h1 : mI ν 834 = mI μ 834) (h2 : mP ν 833 = mP μ 833) (h3 : aP ν 372 = aP μ 372) : q_lst ν = q_lst μ := by
  funext a; unfold q_lst ed; rw [h1, h2, h3]
theorem WF.ls {μ : Mem} (h : WF μ) {a : Nat} (ha : mK μ a = 14) : mI μ 834 a = q_i3 (q_lst μ a).length ∧ (q_lst μ a).length ≤ 100000 ∧ (∀ r, r ∈ q_lst μ a → 1 ≤ mK μ r ∧ mK μ r ≤ 13) ∧ ((mP μ 833 a = mT μ 0 ∧ q_lst μ a = []) ∨ (∃ e, mP μ 833 a = some e ∧ some e ≠ mT μ 0 ∧ mK μ e = 372 ∧ (q_lst μ a).length ≤ mN μ e ∧ 0 < mN μ e ∧ mN μ e ≤ 1000000 ∧ ∀ i, i < (q_lst μ a).length → aP μ 372 e i = some ((q_lst μ a).getD i 0))) := by
  obtain ⟨n, hn, hb, hc⟩ := h.2.2.1 a ha
  have hlen : (q_lst μ a).length = n := by unfold q_lst; rw [hn, i3_toNat (by omega)]; simp
  have hel : ∀ e, mP μ 833 a = some e → ∀ i, i < n → (q_lst μ a).getD i 0 = (aP μ 372 e i).getD 0 := by
    intro e he i hi
    unfold q_lst ed
    rw [hn, i3_toNat (by omega), he, List.getD_eq_getElem?_getD, List.getElem?_map, List.getElem?_range hi]
    rfl
  refine ⟨by rw [hlen, hn], by omega, ?_, ?_⟩
  · intro r hr
    obtain ⟨i, hi, hri⟩ := List.mem_iff_getElem.mp hr
    rcases hc with ⟨_, h0⟩ | ⟨e, he, _, _, _, _, _, hx⟩
    · omega
    · obtain ⟨q, hq, h1, h2⟩ := hx i (by omega)
      have := hel e he i (by omega)
      rw [hq, List.getD_eq_getElem?_getD, List.getElem?_eq_getElem hi] at this
      have hrq : r = q := by rw [← hri]; exact this
      rw [hrq]; exact ⟨h1, h2⟩
  · rcases hc with ⟨h1, h0⟩ | ⟨e, he, h1, h2, h3, h4, h5, hx⟩
    · exact Or.inl ⟨h1, List.eq_nil_of_length_eq_zero (by omega)⟩
    · refine Or.inr ⟨e, he, h1, h2, by omega, h4, h5, fun i hi => ?_⟩
      obtain ⟨q, hq, _, _⟩ := hx i (by omega)
      rw [hel e he i (by omega), hq]; rfl
theorem WF.fr {S : List Nat} {μ ν : Mem} (h : WF μ) (f : q_Fr S μ ν) (hz : Zz ν) (h14 : ∀ a, mK ν a = 14 → mK μ a = 14) (ht : ∀ t, mT μ 0 = some t → t < mX μ → mK μ t = 0 → mK ν t = 0) (h1 : S.contains 834 = false) (h2 : S.contains 833 = false) (h3 : S.contains 2372 = false) : WF ν ∧ q_lst ν = q_lst μ := by
  have e1 := f.i 834 h1
  have e2 := f.p 833 h2
  have e3 := f.ap 372 h3
  have el := lst_congr e1 e2 e3
  have et := f.t
  obtain ⟨hz0, hT, hL, hS, hU, hN⟩ := h
  refine ⟨⟨hz, ?_, ?_, ?_, ?_, ?_⟩, el⟩
  · unfold TT; rw [et]
    refine ⟨?_, hT.2⟩
    obtain ⟨t, ht1, ht2, ht3⟩ := hT.1
    exact ⟨t, ht1, Nat.lt_of_lt_of_le ht2 f.2.2.2.2.1, ht t ht1 ht2 ht3⟩
  · intro a ha
    obtain ⟨n, hn, hb, hc⟩ := hL a (h14 a ha)
    refine ⟨n, by rw [e1]; exact hn, hb, ?_⟩
    rcases hc with ⟨q1, q2⟩ | ⟨e, he, q1, q2, q3, q_q4, q5, hx⟩
    · exact Or.inl ⟨by rw [e2, et]; exact q1, q2⟩
    · have hk : mK μ e ≠ 0 := by omega
      refine Or.inr ⟨e, by rw [e2]; exact he, by rw [et]; exact q1, f.k q2 (by omega), by rw [f.n hk rfl]; exact q3, by rw [f.n hk rfl]; exact q_q4, by rw [f.n hk rfl]; exact q5, fun i hi => ?_⟩
      obtain ⟨r, hr, r1, r2⟩ := hx i hi
      exact ⟨r, by rw [e3]; exact hr, by rw [f.k rfl (by omega)]; exact r1, by rw [f.k rfl (by omega)]; exact r2⟩
  · intro a b ha hb hab hp
    rw [e2] at hp ⊢; rw [et]
    exact hS a b (h14 a ha) (h14 b hb) hab hp
  · intro a b ha hb r; rw [el]; exact hU a b (h14 a ha) (h14 b hb) r
  · intro a ha; rw [el]; exact hN a (h14 a ha)
theorem WF.z {μ : Mem} (h : WF μ) : Zz μ := h.1
theorem nc {S : List Nat} {x : Nat} (h : ∀ y ∈ S, y ≠ x) : S.contains x = false := by
  cases hc : S.contains x with
  | false => rfl
  | true => exact absurd rfl (h x (List.contains_iff_mem.mp hc))
theorem nc1 {f x : Nat} (h : f ≠ x) : [f].contains x = false := nc fun y hy => by rw [List.mem_singleton.mp hy]; exact h
theorem WF.sI {μ : Mem} (h : WF μ) {f a : Nat} {v : Int32} (ha : mK μ a ≠ 0) (hf : f < 833) : WF (sI μ f a v) ∧ q_lst (sI μ f a v) = q_lst μ := h.fr (q_Fr.sI μ f a v) (h.z.sI ha) (fun _ q => q) (fun _ _ _ q => q) (nc1 (by omega)) (nc1 (by omega)) (nc1 (by omega))
theorem WF.sL {μ : Mem} (h : WF μ) {f a : Nat} {v : Int64} (ha : mK μ a ≠ 0) (hf : f < 833) : WF (sL μ f a v) ∧ q_lst (sL μ f a v) = q_lst μ := h.fr (q_Fr.sL μ f a v) (h.z.sL ha) (fun _ q => q) (fun _ _ _ q => q) (nc1 (by omega)) (nc1 (by omega)) (nc1 (by omega))
theorem WF.sP {μ : Mem} (h : WF μ) {f a : Nat} {v : Option Nat} (ha : mK μ a ≠ 0) (hf : f < 833) : WF (sP μ f a v) ∧ q_lst (sP μ f a v) = q_lst μ := h.fr (q_Fr.sP μ f a v) (h.z.sP ha) (fun _ q => q) (fun _ _ _ q => q) (nc1 (by omega)) (nc1 (by omega)) (nc1 (by omega))
theorem WF.tI {μ : Mem} (h : WF μ) {k a i : Nat} {v : Int32} (ha : mK μ a ≠ 0) (hf : k ≠ 372) : WF (tI μ k a i v) ∧ q_lst (tI μ k a i v) = q_lst μ := h.fr (q_Fr.tI μ k a i v) (h.z.tI ha) (fun _ q => q) (fun _ _ _ q => q) (nc1 (by omega)) (nc1 (by omega)) (nc1 (by omega))
theorem WF.tL {μ : Mem} (h : WF μ) {k a i : Nat} {v : Int64} (ha : mK μ a ≠ 0) (hf : k ≠ 372) : WF (tL μ k a i v) ∧ q_lst (tL μ k a i v) = q_lst μ := h.fr (q_Fr.tL μ k a i v) (h.z.tL ha) (fun _ q => q) (fun _ _ _ q => q) (nc1 (by omega)) (nc1 (by omega)) (nc1 (by omega))
theorem WF.tP {μ : Mem} (h : WF μ) {k a i : Nat} {v : Option Nat} (ha : mK μ a ≠ 0) (hf : k ≠ 372) : WF (tP μ k a i v) ∧ q_lst (tP μ k a i v) = q_lst μ := h.fr (q_Fr.tP μ k a i v) (h.z.tP ha) (fun _ q => q) (fun _ _ _ q => q) (nc1 (by omega)) (nc1 (by omega)) (nc1 (by omega))
theorem WF.nw {μ : Mem} (h : WF μ) (k n s : Nat) (hk : k ≠ 14) : WF (q_al k n s μ) ∧ q_lst (q_al k n s μ) = q_lst μ := h.fr (q_Fr.nw h.z k n s) (h.z.nw k n s) (fun a q => by rw [mK_al] at q; split at q; exact absurd q hk; exact q) (fun t _ q1 q2 => by rw [mK_al, if_neg (by omega)]; exact q2) rfl rfl rfl
theorem WF.nE {μ : Mem} (h : WF μ) : WF (nE μ) ∧ q_lst (nE μ) = q_lst μ := h.fr (q_Fr.nE μ) h.z.nE (fun _ q => q) (fun _ _ _ q => q) rfl rfl rfl
def LU (a : Nat) (l : List Nat) (c : Nat) (μ ν : Mem) : Prop := WF ν ∧ q_Fr [832, 833, 834, 2372] μ ν ∧ q_lst ν a = l ∧ (∀ b, mK μ b = 14 → b ≠ a → q_lst ν b = q_lst μ b) ∧ (∀ b, mK ν b = 14 → mK μ b = 14) ∧ mX ν ≤ mX μ + 1 ∧ mS ν ≤ mS μ + c
theorem LU_mk {μ ν : Mem} {a e c : Nat} {l : List Nat} (hW : WF μ) (ha : mK μ a = 14) (hz : Zz ν) (fr : q_Fr [832, 833, 834, 2372] μ ν) (he : mP ν 833 a = some e) (hke : mK ν e = 372) (hown : ∀ b, mK μ b = 14 → b ≠ a → mP μ 833 b ≠ some e) (hT : some e ≠ mT μ 0)
    (hn : mI ν 834 a = q_i3 l.length) (hl : l.length ≤ 100000) (hcap : l.length ≤ mN ν e) (hc0 : 0 < mN ν e) (hc1 : mN ν e ≤ 1000000) (hel : ∀ i, i < l.length → aP ν 372 e i = some (l.getD i 0))
    (hoth : ∀ b, mK μ b = 14 → b ≠ a → mI ν 834 b = mI μ 834 b ∧ mP ν 833 b = mP μ 833 b ∧ ∀ e', mP μ 833 b = some e' → some e' ≠ mT μ 0 → aP ν 372 e' = aP μ 372 e')
    (h14 : ∀ b, mK ν b = 14 → mK μ b = 14) (ht : ∀ t, mT μ 0 = some t → t < mX μ → mK μ t = 0 → mK ν t = 0) (hk : ∀ r, r ∈ l → 1 ≤ mK ν r ∧ mK ν r ≤ 13) (hnd : l.Nodup) (hsep : ∀ b, mK μ b = 14 → b ≠ a → ∀ r, r ∈ l → r ∉ q_lst μ b)
    (hx : mX ν ≤ mX μ + 1) (hs : mS ν ≤ mS μ + c) : LU a l c μ ν := by
  have hla : q_lst ν a = l := lst_eq he hn (by omega) hel
  have hlb : ∀ b, mK μ b = 14 → b ≠ a → q_lst ν b = q_lst μ b := by
    intro b hb hba
    obtain ⟨q1, q2, q3⟩ := hoth b hb hba
    obtain ⟨g1, g2, g3, g4⟩ := hW.ls hb
    unfold q_lst ed
    rw [q1, q2]
    rcases g4 with ⟨z1, z2⟩ | ⟨e', z1, z2, z3⟩
    · have : (q_lst μ b).length = 0 := by rw [z2]; rfl
      rw [g1, this, i3_toNat (by omega)]; rfl
    · rw [z1]; simp only [Option.getD_some]; rw [q3 e' z1 z2]
  have et := fr.t
  obtain ⟨hz0, hT0, hL, hS, hU, hN⟩ := hW
  refine ⟨⟨hz, ?_, ?_, ?_, ?_, ?_⟩, fr, hla, hlb, h14, hx, hs⟩
  · unfold TT; rw [et]
    refine ⟨?_, hT0.2⟩
    obtain ⟨t, ht1, ht2, ht3⟩ := hT0.1
    exact ⟨t, ht1, Nat.lt_of_lt_of_le ht2 fr.2.2.2.2.1, ht t ht1 ht2 ht3⟩
  · intro b hb
    by_cases hba : b = a
    · subst hba
      exact ⟨l.length, hn, hl, Or.inr ⟨e, he, by rw [et]; exact hT, hke, hcap, hc0, hc1, fun i hi => ⟨_, hel i hi, hk _ (by rw [List.getD_eq_getElem?_getD, List.getElem?_eq_getElem hi]; exact List.getElem_mem _)⟩⟩⟩
    · obtain ⟨q1, q2, q3⟩ := hoth b (h14 b hb) hba
      obtain ⟨n, hn', hb', hc⟩ := hL b (h14 b hb)
      refine ⟨n, by rw [q1]; exact hn', hb', ?_⟩
      rcases hc with ⟨z1, z2⟩ | ⟨e', z0, z1, z2, z3, z4, z5, z6⟩
      · exact Or.inl ⟨by rw [q2, et]; exact z1, z2⟩
      · have hk' : mK μ e' ≠ 0 := by omega
        refine Or.inr ⟨e', by rw [q2]; exact z0, by rw [et]; exact z1, fr.k z2 (by omega), by rw [fr.n hk' rfl]; exact z3, by rw [fr.n hk' rfl]; exact z4, by rw [fr.n hk' rfl]; exact z5, fun i hi => ?_⟩
        obtain ⟨r, r0, r1, r2⟩ := z6 i hi
        exact ⟨r, by rw [q3 e' z0 z1]; exact r0, by rw [fr.k rfl (by omega)]; exact r1, by rw [fr.k rfl (by omega)]; exact r2⟩
  · intro b1 b2 h1 h2 hne hp
    rw [et]
    by_cases q1 : b1 = a
    · subst q1
      obtain ⟨_, p2, _⟩ := hoth b2 (h14 b2 h2) (Ne.symm hne)
      rw [he, p2] at hp
      exact absurd hp.symm (hown b2 (h14 b2 h2) (Ne.symm hne))
    · by_cases q2 : b2 = a
      · subst q2
        obtain ⟨_, p2, _⟩ := hoth b1 (h14 b1 h1) q1
        rw [he, p2] at hp
        exact absurd hp (hown b1 (h14 b1 h1) q1)
      · obtain ⟨_, p1, _⟩ := hoth b1 (h14 b1 h1) q1
        obtain ⟨_, p2, _⟩ := hoth b2 (h14 b2 h2) q2
        rw [p1, p2] at hp
        rw [p1]
        exact hS b1 b2 (h14 b1 h1) (h14 b2 h2) hne hp
  · intro b1 b2 h1 h2 r r1 r2
    by_cases q1 : b1 = a
    · by_cases q2 : b2 = a
      · rw [q1, q2]
      · subst q1
        rw [hla] at r1; rw [hlb b2 (h14 b2 h2) q2] at r2
        exact absurd r2 (hsep b2 (h14 b2 h2) q2 r r1)
    · by_cases q2 : b2 = a
      · subst q2
        rw [hla] at r2; rw [hlb b1 (h14 b1 h1) q1] at r1
        exact absurd r1 (hsep b1 (h14 b1 h1) q1 r r2)
      · rw [hlb b1 (h14 b1 h1) q1] at r1; rw [hlb b2 (h14 b2 h2) q2] at r2
        exact hU b1 b2 (h14 b1 h1) (h14 b2 h2) r r1 r2
  · intro b hb
    by_cases q : b = a
    · subst q; rw [hla]; exact hnd
    · rw [hlb b (h14 b hb) q]; exact hN b (h14 b hb)

theorem i3_shr1 {n : Nat} (h : n < 2147483648) : q_i3 n >>> ((1 : Int32) &&& 31) = q_i3 (n / 2) := by
  apply Int32.toInt_inj.mp
  rw [i3_toInt (by omega)]
  have h1 : (q_i3 n >>> ((1 : Int32) &&& 31)).toBitVec = (q_i3 n).toBitVec.sshiftRight 1 := by
    rw [Int32.toBitVec_shiftRight]; rfl
  show (q_i3 n >>> ((1 : Int32) &&& 31)).toBitVec.toInt = _
  rw [h1, BitVec.toInt_sshiftRight]
  show (q_i3 n).toInt >>> 1 = _
  rw [i3_toInt h, Int.shiftRight_eq_div_pow]
  omega
theorem ls_size {μ : Mem} {a : Nat} (h : WF μ) (ha : mK μ a = 14) : F_Jx4a65c_size_8abf5 a μ = some (q_i3 (q_lst μ a).length, μ) := by
  apply eq_wp
  unfold F_Jx4a65c_size_8abf5
  simp only [wp_bn, wp_gI, wp_rt]
  exact ⟨ha, (h.ls ha).1, trivial⟩
theorem ls_empty {μ : Mem} {a : Nat} (h : WF μ) (ha : mK μ a = 14) : F_Jx4a65c_isEmpty_aae02 a μ = some (if (q_lst μ a).length = 0 then 1 else 0, μ) := by
  apply eq_wp
  unfold F_Jx4a65c_isEmpty_aae02
  simp only [wp_bn, wp_gI]
  refine ⟨ha, ?_⟩
  have h1 := (h.ls ha).1
  have h2 := (h.ls ha).2.1
  have h3 : mI μ (64 * 13 + 2) a = q_i3 (q_lst μ a).length := h1
  rw [h3]
  by_cases h0 : (q_lst μ a).length = 0
  · rw [h0]; simp only [wp_ite, wp_rz]; simp [q_i3]
  · have : ¬ q_i3 (q_lst μ a).length = 0 := fun q => h0 ((i3_eq (b := 0) (by omega) (by omega)).mp q)
    simp only [wp_ite, wp_rz, this, h0]; simp
theorem ls_get {μ : Mem} {a i : Nat} (h : WF μ) (ha : mK μ a = 14) (hi : i < (q_lst μ a).length) : F_Jx4a65c_get_915e3 a (q_i3 i) μ = some (some ((q_lst μ a).getD i 0), μ) := by
  obtain ⟨h1, h2, h3, h4⟩ := h.ls ha
  rcases h4 with ⟨_, h4⟩ | ⟨e, he, h5, h6, h7, h8, h9, h10⟩
  · rw [h4] at hi; exact absurd hi (Nat.not_lt_zero _)
  apply eq_wp
  have h1' : mI μ (64 * 13 + 2) a = q_i3 (q_lst μ a).length := h1
  have he' : mP μ (64 * 13 + 1) a = some e := he
  unfold F_Jx4a65c_get_915e3 F_J15_checkIndex_7cf53 F_J3_checkIndex_8e157 F_Jx4a65c_elementData_915e3
  simp only [wp_bn, wp_gI, wp_rt, wp_ite, h1', i3_nn (show i < 2147483648 by omega), if_false, i3_lt (show i < 2147483648 by omega) (show (q_lst μ a).length < 2147483648 by omega), hi, if_true, wp_pRc, wp_gP, he', wp_lP, inA_i3 (show i < 2147483648 by omega), i3_toNat (show i < 2147483648 by omega), h10 i hi]
  exact ⟨ha, ha, ha, h6, by omega, trivial, trivial⟩
theorem wp_cpyP {k0 k1 a0 a1 i j n : Nat} {μ : Mem} {Q : Unit → Mem → Prop} (hi : i < 2147483648) (hj : j < 2147483648) (hn : n < 2147483648) (h0 : mK μ a0 = k0) (h1 : mK μ a1 = k1) (h2 : i + n ≤ mN μ a0) (h3 : j + n ≤ mN μ a1)
    (h4 : ∀ q, q < n → aP μ k0 a0 (i + q) = none ∨ (1 ≤ mK μ ((aP μ k0 a0 (i + q)).getD 0) ∧ mK μ ((aP μ k0 a0 (i + q)).getD 0) ≤ 13)) (hQ : Q () (cpP μ k0 a0 i k1 a1 j n)) : q_wp (cpyP k0 k1 (some a0) (q_i3 i) (some a1) (q_i3 j) (q_i3 n)) μ Q := by
  unfold cpyP
  rw [wp_bn, wp_pArr]
  refine ⟨h0, ?_⟩
  rw [wp_bn, wp_pArr]
  refine ⟨h1, ?_⟩
  simp only [q_wp, wp_if, i3_toNat hi, i3_toNat hj, i3_toNat hn]
  refine ⟨⟨i3_nn hi, i3_nn hj, i3_nn hn, h2, h3, ?_⟩, hQ⟩
  rw [List.all_eq_true]
  intro q hq
  exact decide_eq_true (h4 q (List.mem_range.mp hq))
theorem q_Fr.cpP (μ : Mem) (k0 a0 i k1 a1 j n : Nat) : q_Fr [2000 + k1] μ (cpP μ k0 a0 i k1 a1 j n) := by
  refine ⟨fun _ h => ⟨rfl, rfl, rfl⟩, fun k h => ⟨rfl, rfl, ?_⟩, rfl, fun _ _ => ⟨rfl, rfl⟩, Nat.le_refl _, Nat.le_refl _⟩
  have hk : k ≠ k1 := fun q => nm1 h (by rw [q])
  funext b q
  show (if k = k1 ∧ b = a1 then _ else aP μ k b q) = _
  simp [hk]
theorem Zz.cpP {μ : Mem} (hz : Zz μ) {k0 a0 i k1 a1 j n : Nat} (h : mK μ a1 ≠ 0) : Zz (cpP μ k0 a0 i k1 a1 j n) := by
  intro b hb
  have hne : b ≠ a1 := by have := hz.lt h; have hb : mX μ ≤ b := hb; omega
  obtain ⟨h1, h2, h3, h4, h5, h6, hr⟩ := hz b hb
  refine ⟨h1, h2, h3, h4, h5, fun g q => ?_, hr⟩
  show (if g = k1 ∧ b = a1 then _ else aP μ g b q) = none
  simp [hne, h6 g q]
def Grown (a e : Nat) (n : Nat) (μ ν : Mem) : Prop := Zz ν ∧ e = mX μ ∧ mP ν 833 a = some e ∧ mK ν e = 372 ∧ n + 1 ≤ mN ν e ∧ mN ν e ≤ 3 * (n + 1) / 2 + 10 ∧ (∀ i, i < n → aP ν 372 e i = some ((q_lst μ a).getD i 0)) ∧ q_Fr [833, 2372] μ ν ∧ (∀ b, b ≠ a → mP ν 833 b = mP μ 833 b) ∧ (∀ b, b ≠ e → aP ν 372 b = aP μ 372 b) ∧ (∀ b, b ≠ e → mK ν b = mK μ b) ∧ mX ν = mX μ + 1 ∧ mS ν = mS μ + mN ν e ∧ mI ν = mI μ
theorem ls_grow {μ : Mem} {a n : Nat} (h : WF μ) (ha : mK μ a = 14) (hn : (q_lst μ a).length = n) (hc : ∀ e, mP μ 833 a = some e → some e ≠ mT μ 0 → mN μ e = n) : q_wp (F_Jx4a65c_grow_d5877 a) μ (fun v ν => ∃ e, v = some e ∧ Grown a e n μ ν) := by
  obtain ⟨h1, h2, h3, h4⟩ := h.ls ha
  have hz := h.z
  rw [hn] at h1 h2
  have h1' : mI μ (64 * 13 + 2) a = q_i3 n := h1
  unfold F_Jx4a65c_grow_d5877
  simp only [wp_bn, wp_gI, h1', i3_1, wp_pRc]
  refine ⟨ha, ha, ?_⟩
  unfold F_Jx4a65c_grow_92f84
  simp only [wp_bn, wp_gP]
  refine ⟨ha, ?_⟩
  obtain ⟨t, ht, htx, htk⟩ := h.2.1.1
  have hxk : ∀ b, mK μ b ≠ 0 → b ≠ mX μ := fun b hb => by have := hz.lt hb; omega
  have hax : a ≠ mX μ := hxk a (by omega)
  rcases h4 with ⟨g1, g2⟩ | ⟨e, g1, g2, g3, g4, g5, g6, g7⟩
  · have hn0 : n = 0 := by rw [← hn, g2]; rfl
    subst hn0
    have g1' : mP μ (64 * 13 + 1) a = some t := by rw [← ht]; exact g1
    rw [g1', wp_len, if_pos ht.symm]
    simp only [wp_ite]
    rw [if_neg (by decide)]
    simp only [wp_bn, wp_gP]
    refine ⟨ha, ?_⟩
    rw [wp_cK, g1', wp_ite, if_pos ht.symm, wp_bn]
    have e10 : (if (10 : Int32) < q_i3 (0 + 1) then q_i3 (0 + 1) else (10 : Int32)) = q_i3 10 := by decide
    rw [e10, wp_newA hz (by omega)]
    simp only [wp_bn, wp_wP, wp_rt]
    refine ⟨by rw [mK_al, if_neg hax]; exact ha, ?_⟩
    have hz1 := hz.nw 372 10 10
    refine ⟨mX μ, rfl, hz1.sP (by rw [mK_al, if_neg hax]; omega), rfl, ?_, ?_, ?_, ?_, ?_, ?_, ?_, ?_, ?_, rfl, ?_, rfl⟩
    · rw [mP_sP']; simp
    · rw [mK_sP, mK_al, if_pos rfl]
    · rw [mN_sP, mN_al, if_pos rfl]; omega
    · rw [mN_sP, mN_al, if_pos rfl]; omega
    · intro i hi; omega
    · exact ((q_Fr.nw hz 372 10 10).tr (q_Fr.sP _ 833 a _)).wk rfl
    · intro b hb; rw [mP_sP']; simp [hb, mP_al]
    · intro b hb; rfl
    · intro b hb; rw [mK_sP, mK_al, if_neg hb]
    · rw [mS_sP, mN_sP, mN_al, if_pos rfl]; rfl
  · have g1' : mP μ (64 * 13 + 1) a = some e := g1
    have hN := hc e g1 g2
    have hex : e ≠ mX μ := hxk e (by omega)
    rw [g1', wp_len, if_neg g2]
    refine ⟨by omega, ?_⟩
    have hN' : Int32.ofNat (mN μ e) = q_i3 n := by rw [hN]; rfl
    rw [hN', wp_ite]
    have hpos : (0 : Int32) < q_i3 n := (i3_lt (a := 0) (by omega) (by omega)).mpr (by omega)
    rw [if_pos hpos]
    unfold F_Jx4a65c_grow_92f84_L20
    rw [i3_sub (by omega), i3_shr1 (by omega), show n + 1 - n = 1 by omega, wp_bn]
    unfold F_J8_newLength_cabcc
    have hmx : (q_i3 n + if q_i3 1 < q_i3 (n / 2) then q_i3 (n / 2) else q_i3 1) = q_i3 (n + if 1 < n / 2 then n / 2 else 1) := by
      by_cases hq : 1 < n / 2
      · rw [if_pos ((i3_lt (by omega) (by omega)).mpr hq), if_pos hq, i3_add]
      · rw [if_neg (fun z => hq ((i3_lt (by omega) (by omega)).mp z)), if_neg hq, i3_add]
    rw [hmx]
    obtain ⟨N, hNd⟩ : ∃ N, N = n + if 1 < n / 2 then n / 2 else 1 := ⟨_, rfl⟩
    have hN1 : n + 1 ≤ N := by rw [hNd]; split <;> omega
    have hN2 : N ≤ 3 * (n + 1) / 2 := by rw [hNd]; split <;> omega
    have hq1 : ¬ q_i3 N ≤ (0 : Int32) := fun z => absurd ((i3_le (a := N) (b := 0) (by omega) (by omega)).mp z) (by omega)
    have hq2 : ¬ (2147483639 : Int32) < q_i3 N := fun z => absurd ((i3_lt (a := 2147483639) (b := N) (by omega) (by omega)).mp z) (by omega)
    rw [← hNd, wp_ite, if_neg hq1, wp_ite, if_neg hq2]
    simp only [wp_bn, wp_rt, wp_gP]
    refine ⟨ha, ?_⟩
    rw [g1']
    unfold F_J7_copyOf_1904c
    rw [wp_bn, wp_pArr]
    refine ⟨g3, ?_⟩
    rw [wp_bn, wp_cK, wp_bn]
    unfold F_J7_copyOf_6403c
    rw [wp_bn, wp_cK, wp_ite, if_neg (by simp), wp_bn, wp_newA hz (by omega)]
    unfold F_J7_copyOf_6403c_L24
    rw [wp_bn, wp_len, mT_al, if_neg g2, mK_al, if_neg hex, mN_al, if_neg hex, hN']
    refine ⟨by omega, ?_⟩
    have hlt : ¬ q_i3 N < q_i3 n := fun z => absurd ((i3_lt (by omega) (by omega)).mp z) (by omega)
    rw [if_neg hlt, wp_bn]
    have hz1 := hz.nw 372 N N
    refine wp_cpyP (i := 0) (j := 0) (by omega) (by omega) (by omega) (by rw [mK_al, if_neg hex]; exact g3) (by rw [mK_al, if_pos rfl]) (by rw [mN_al, if_neg hex]; omega) (by rw [mN_al, if_pos rfl]; omega) ?_ ?_
    · intro q hq
      right
      rw [aP_al, Nat.zero_add, g7 q (by omega)]
      have hm : (q_lst μ a).getD q 0 ∈ q_lst μ a := by
        rw [List.getD_eq_getElem?_getD, List.getElem?_eq_getElem (by omega)]; exact List.getElem_mem _
      obtain ⟨k1, k2⟩ := h3 _ hm
      simp only [Option.getD_some]
      rw [mK_al, if_neg (hxk _ (by omega))]
      exact ⟨k1, k2⟩
    · rw [wp_rt, wp_rt]
      simp only [wp_bn, wp_wP, wp_rt]
      refine ⟨by show mK (q_al 372 N N μ) a = 14; rw [mK_al, if_neg hax]; exact ha, ?_⟩
      have hz2 := hz1.cpP (k0 := 372) (a0 := e) (i := 0) (k1 := 372) (a1 := mX μ) (j := 0) (n := n) (by rw [mK_al, if_pos rfl]; omega)
      refine ⟨mX μ, rfl, hz2.sP (by show mK (q_al 372 N N μ) a ≠ 0; rw [mK_al, if_neg hax]; omega), rfl, ?_, ?_, ?_, ?_, ?_, ?_, ?_, ?_, ?_, rfl, ?_, rfl⟩
      · rw [mP_sP']; simp
      · show mK (q_al 372 N N μ) (mX μ) = 372; rw [mK_al, if_pos rfl]
      · show n + 1 ≤ mN (q_al 372 N N μ) (mX μ); rw [mN_al, if_pos rfl]; omega
      · show mN (q_al 372 N N μ) (mX μ) ≤ _; rw [mN_al, if_pos rfl]; omega
      · intro i hi
        show (if 372 = 372 ∧ mX μ = mX μ then va_cpy (aP μ 372 e) (aP μ 372 (mX μ)) 0 0 n i else aP μ 372 (mX μ) i) = _
        rw [if_pos ⟨rfl, rfl⟩]
        unfold va_cpy
        rw [if_pos ⟨by omega, by omega⟩, ← g7 i (by omega)]
        simp
      · exact (((q_Fr.nw hz 372 N N).tr (q_Fr.cpP _ 372 e 0 372 (mX μ) 0 n)).tr (q_Fr.sP _ 833 a _)).wk rfl
      · intro b hb
        rw [mP_sP']; simp only [hb, and_false, if_false]; rfl
      · intro b hb
        funext i
        show (if 372 = 372 ∧ b = mX μ then _ else aP μ 372 b i) = _
        simp [hb]
      · intro b hb
        show mK (q_al 372 N N μ) b = _; rw [mK_al, if_neg hb]
      · show mS μ + N = mS μ + mN (q_al 372 N N μ) (mX μ); rw [mN_al, if_pos rfl]

def Rdy (a e n c : Nat) (μ ν : Mem) : Prop := Zz ν ∧ q_Fr [832, 833, 2372] μ ν ∧ mP ν 833 a = some e ∧ mK ν e = 372 ∧ 0 < mN ν e ∧ n ≤ mN ν e ∧ mN ν e ≤ 1000000 ∧ (∀ i, i < (q_lst μ a).length → aP ν 372 e i = some ((q_lst μ a).getD i 0)) ∧ (∀ b, b ≠ a → mP ν 833 b = mP μ 833 b) ∧ mI ν 834 = mI μ 834 ∧ (∀ b, b ≠ e → aP ν 372 b = aP μ 372 b) ∧ (∀ b, mK μ b = 14 → b ≠ a → mP μ 833 b ≠ some e) ∧ some e ≠ mT μ 0 ∧ (∀ b, b ≠ e → mK ν b = mK μ b) ∧ mX ν ≤ mX μ + 1 ∧ mS ν ≤ mS μ + c
theorem Rdy.go {a e n c : Nat} {μ ν0 ν : Mem} {l : List Nat} (hW : WF μ) (ha : mK μ a = 14) (R : Rdy a e n c μ ν0) (hz : Zz ν) (fr : q_Fr [834, 2372] ν0 ν) (h1 : mP ν 833 = mP ν0 833) (h2 : mK ν = mK ν0) (h3 : mN ν = mN ν0) (h4 : mX ν = mX ν0) (h5 : mS ν = mS ν0)
    (h6 : ∀ i, i < l.length → aP ν 372 e i = some (l.getD i 0)) (h7 : ∀ b, b ≠ e → aP ν 372 b = aP ν0 372 b) (h8 : mI ν 834 a = q_i3 l.length) (h9 : ∀ b, b ≠ a → mI ν 834 b = mI ν0 834 b) (hl : l.length ≤ n) (hl2 : l.length ≤ 100000)
    (hk : ∀ r, r ∈ l → 1 ≤ mK μ r ∧ mK μ r ≤ 13) (hnd : l.Nodup) (hsep : ∀ b, mK μ b = 14 → b ≠ a → ∀ r, r ∈ l → r ∉ q_lst μ b) : LU a l c μ ν := by
  obtain ⟨r1, r2, r3, r4, r5, r6, r7, r8, r9, r10, r11, r12, r13, r14, r15, r16⟩ := R
  have hke : ∀ b, mK μ b ≠ 0 → mK ν b = mK μ b := fun b hb => by rw [h2]; exact r2.k rfl hb
  have he14 : mK ν e = 372 := by rw [h2]; exact r4
  refine LU_mk (e := e) hW ha hz ((r2.tr fr).wk rfl) (by rw [h1]; exact r3) he14 r12 r13 h8 hl2 (by rw [h3]; omega) (by rw [h3]; exact r5) (by rw [h3]; exact r7) h6 ?_ ?_ ?_ ?_ hnd hsep (by rw [h4]; exact r15) (by rw [h5]; exact r16)
  · intro b hb hba
    refine ⟨by rw [h9 b hba, r10], by rw [h1, r9 b hba], fun e' he' hT => ?_⟩
    have hne : e' ≠ e := fun q => r12 b hb hba (by rw [he', q])
    rw [h7 e' hne, r11 e' hne]
  · intro b hb
    by_cases hbe : b = e
    · rw [hbe, he14] at hb; omega
    · rw [h2, r14 b hbe] at hb; exact hb
  · intro t ht htx htk
    have hne : t ≠ e := fun q => r13 (by rw [← q]; exact ht.symm)
    rw [h2, r14 t hne]; exact htk
  · intro r hr
    obtain ⟨k1, k2⟩ := hk r hr
    rw [hke r (by omega)]; exact ⟨k1, k2⟩
theorem Rdy.mk {a e n : Nat} {μ : Mem} (h : WF μ) (ha : mK μ a = 14) (he : mP μ 833 a = some e) (hT : some e ≠ mT μ 0) (hn : n ≤ mN μ e) (v : Int32) : Rdy a e n 0 μ (sI μ 832 a v) := by
  obtain ⟨h1, h2, h3, h4⟩ := h.ls ha
  rcases h4 with ⟨g1, _⟩ | ⟨e', g1, g2, g3, g4, g5, g6, g7⟩
  · exact absurd (by rw [← he, g1]) hT
  · rw [he] at g1; cases g1
    refine ⟨h.z.sI (by omega), (q_Fr.sI μ 832 a v).wk rfl, he, g3, g5, hn, g6, g7, fun b _ => rfl, ?_, fun b _ => rfl, ?_, g2, fun b _ => rfl, Nat.le_succ _, Nat.le_refl _⟩
    · funext b; rw [mI_sI']; simp
    · intro b hb hba hp
      have := h.2.2.2.1 a b ha hb (Ne.symm hba) (by rw [he, hp])
      exact g2 (by rw [← he]; exact this)
theorem Rdy.gr {a e n : Nat} {μ ν : Mem} {v : Int32} (h : WF μ) (ha : mK μ a = 14) (hn : (q_lst μ a).length = n) (hb : n < 100000) (G : Grown a e n (sI μ 832 a v) ν) : Rdy a e (n + 1) (3 * (n + 1) / 2 + 10) μ ν := by
  obtain ⟨g1, g2, g3, g4, g5, g6, g7, g8, g9, g10, g11, g12, g13, g14⟩ := G
  have hl : q_lst (sI μ 832 a v) = q_lst μ := (h.sI (by omega) (by omega)).2
  rw [hl] at g7
  have gx : e = mX μ := g2
  refine ⟨g1, ((q_Fr.sI μ 832 a v).tr g8).wk rfl, g3, g4, by omega, g5, by omega, by rw [hn]; exact g7, fun b hb => by rw [g9 b hb]; rfl, ?_, fun b hb => by rw [g10 b hb]; rfl, ?_, ?_, fun b hb => by rw [g11 b hb]; rfl, ?_, ?_⟩
  · rw [g14]; funext b; rw [mI_sI']; simp
  · intro b hb hba hp
    obtain ⟨_, _, _, h4⟩ := h.ls hb
    rcases h4 with ⟨q1, _⟩ | ⟨e', q1, q2, q3, _⟩
    · obtain ⟨t, ht, htx, _⟩ := h.2.1.1
      rw [hp, ht] at q1; cases q1; omega
    · rw [hp] at q1; cases q1
      have := h.z.lt (a := e) (by omega); omega
  · obtain ⟨t, ht, htx, _⟩ := h.2.1.1
    intro q; rw [ht] at q; cases q; omega
  · rw [g12]; exact Nat.le_refl _
  · rw [g13]; show mS μ + mN ν e ≤ _; omega
theorem getD_app1 {l : List Nat} {r i : Nat} (h : i < l.length) : (l ++ [r]).getD i 0 = l.getD i 0 := by
  simp only [List.getD_eq_getElem?_getD, List.getElem?_append_left h]
theorem getD_app2 {l : List Nat} {r : Nat} : (l ++ [r]).getD l.length 0 = r := by
  simp [List.getD_eq_getElem?_getD]
theorem inA_of {a n : Nat} (ha : a < 2147483648) (h : a < n) : inA (q_i3 a) n := (inA_i3 ha).mpr h
theorem ls_add_tail {a r e c : Nat} {μ ν0 : Mem} (h : WF μ) (ha : mK μ a = 14) (hr : 1 ≤ mK μ r ∧ mK μ r ≤ 13) (hnew : ∀ b, mK μ b = 14 → r ∉ q_lst μ b) (hlen : (q_lst μ a).length < 100000) (R : Rdy a e ((q_lst μ a).length + 1) c μ ν0) :
    q_wp (F_Jx4a65c_add_72be8_L11 a (some r) (some e) (q_i3 (q_lst μ a).length)) ν0 (fun _ ν => LU a (q_lst μ a ++ [r]) c μ ν) := by
  have R' := R
  obtain ⟨r1, r2, r3, r4, r5, r6, r7, r8, r9, r10, r11, r12, r13, r14, r15, r16⟩ := R
  unfold F_Jx4a65c_add_72be8_L11
  have hb : (q_lst μ a).length < 2147483648 := by omega
  have ha0 : mK ν0 a = 14 := r2.k ha (by omega)
  have hr0 : mK ν0 r = mK μ r := r2.k rfl (by omega)
  simp only [wp_bn, wp_stO, wp_wI, wp_rt, i3_1]
  refine ⟨r4, ⟨inA_of hb (by omega), Or.inr (by simp only [Option.getD_some, hr0]; exact hr)⟩, ha0, ?_⟩
  rw [i3_toNat hb]
  refine Rdy.go h ha R' ((r1.tP (by omega)).sI (by rw [mK_tP]; omega)) (((q_Fr.tP ν0 372 e _ _).tr (q_Fr.sI _ 834 a _)).wk rfl) rfl rfl rfl rfl rfl ?_ ?_ ?_ ?_ (by simp) (by simp; omega) ?_ ?_ ?_
  · intro i hi
    rw [List.length_append, List.length_singleton] at hi
    rw [aP_sI, aP_tP']
    by_cases hq : i = (q_lst μ a).length
    · rw [if_pos ⟨rfl, rfl, hq⟩, hq, getD_app2]
    · rw [if_neg (fun z => hq z.2.2), r8 i (by omega), getD_app1 (by omega)]
  · intro b hb; funext i; rw [aP_sI, aP_tP', if_neg (fun z => hb z.2.1)]
  · rw [mI_sI', if_pos ⟨rfl, rfl⟩, List.length_append]; rfl
  · intro b hb; rw [mI_sI', if_neg (fun z => hb z.2)]; rfl
  · intro x hx
    rcases List.mem_append.mp hx with q | q
    · exact (h.ls ha).2.2.1 x q
    · rw [List.mem_singleton.mp q]; exact hr
  · have := h.2.2.2.2.2 a ha
    rw [List.nodup_append]
    refine ⟨this, by simp, fun x hx y hy q => ?_⟩
    rw [List.mem_singleton.mp hy] at q; rw [q] at hx; exact hnew a ha hx
  · intro b hb hba x hx
    rcases List.mem_append.mp hx with q | q
    · exact fun z => hba ((h.2.2.2.2.1 a b ha hb x q z).symm)
    · rw [List.mem_singleton.mp q]; exact hnew b hb
theorem LU.le {a c d : Nat} {l : List Nat} {μ ν : Mem} (h : LU a l c μ ν) (hc : c ≤ d) : LU a l d μ ν := ⟨h.1, h.2.1, h.2.2.1, h.2.2.2.1, h.2.2.2.2.1, h.2.2.2.2.2.1, by have := h.2.2.2.2.2.2; omega⟩
theorem ls_add2 {a r : Nat} {μ : Mem} {v : Int32} (h : WF μ) (ha : mK μ a = 14) (hr : 1 ≤ mK μ r ∧ mK μ r ≤ 13) (hnew : ∀ b, mK μ b = 14 → r ∉ q_lst μ b) (hlen : (q_lst μ a).length < 100000) :
    q_wp (F_Jx4a65c_add_72be8 a (some r) (mP μ 833 a) (q_i3 (q_lst μ a).length)) (sI μ 832 a v) (fun _ ν => LU a (q_lst μ a ++ [r]) (3 * ((q_lst μ a).length + 1) / 2 + 10) μ ν) := by
  obtain ⟨h1, h2, h3, h4⟩ := h.ls ha
  have h0 : ¬ mK μ a = 0 := by omega
  unfold F_Jx4a65c_add_72be8
  obtain ⟨W1, l1⟩ := h.sI (f := 832) (a := a) (v := v) h0 (by omega)
  have hgrow : (∀ e, mP μ 833 a = some e → some e ≠ mT μ 0 → mN μ e = (q_lst μ a).length) → q_wp (bn (pRc 13 (some a)) fun b2 => bn (F_Jx4a65c_grow_d5877 b2) fun v3 => F_Jx4a65c_add_72be8_L11 a (some r) v3 (q_i3 (q_lst μ a).length)) (sI μ 832 a v) (fun _ ν => LU a (q_lst μ a ++ [r]) (3 * ((q_lst μ a).length + 1) / 2 + 10) μ ν) := by
    intro hc
    simp only [wp_bn, wp_pRc]
    refine ⟨ha, ?_⟩
    refine q_wp_mono (ls_grow (n := (q_lst μ a).length) W1 ha (by rw [l1]) hc) ?_
    rintro x ν ⟨e, rfl, G⟩
    exact ls_add_tail h ha hr hnew hlen (Rdy.gr h ha rfl hlen G)
  rcases h4 with ⟨g1, g2⟩ | ⟨e, g1, g2, g3, g4, g5, g6, g7⟩
  · obtain ⟨t, ht, htx, htk⟩ := h.2.1.1
    have e0 : mP μ 833 a = some t := by rw [← ht]; exact g1
    rw [e0, wp_bn, wp_len, if_pos (by rw [mT_sI]; exact ht.symm)]
    rw [wp_ite, if_neg (by rw [g2]; decide)]
    exact hgrow fun e he hT => absurd (by rw [← he, g1]) hT
  · rw [g1, wp_bn, wp_len, if_neg (by rw [mT_sI]; exact g2)]
    refine ⟨by rw [mK_sI]; omega, ?_⟩
    rw [mN_sI]
    by_cases hq : (q_lst μ a).length = mN μ e
    · rw [wp_ite, if_neg (by rw [hq]; exact fun z => z rfl)]
      exact hgrow fun e' he' _ => by rw [g1] at he'; cases he'; exact hq.symm
    · have hne : ¬ q_i3 (q_lst μ a).length = Int32.ofNat (mN μ e) := fun z => hq ((i3_eq (by omega) (by omega)).mp z)
      rw [wp_ite, if_pos hne]
      exact q_wp_mono (ls_add_tail h ha hr hnew hlen (Rdy.mk h ha g1 g2 (by omega) v)) fun _ _ q => q.le (by omega)
theorem ls_add {a r : Nat} {μ : Mem} (h : WF μ) (ha : mK μ a = 14) (hr : 1 ≤ mK μ r ∧ mK μ r ≤ 13) (hnew : ∀ b, mK μ b = 14 → r ∉ q_lst μ b) (hlen : (q_lst μ a).length < 100000) :
    q_wp (F_Jx4a65c_add_9ea2d a (some r)) μ (fun v ν => v = 1 ∧ LU a (q_lst μ a ++ [r]) (3 * ((q_lst μ a).length + 1) / 2 + 10) μ ν) := by
  obtain ⟨h1, h2, h3, h4⟩ := h.ls ha
  unfold F_Jx4a65c_add_9ea2d
  simp only [wp_bn, wp_gI, wp_wI, wp_gP, wp_pRc, wp_rz]
  refine ⟨ha, ha, ha, ha, ha, ?_⟩
  have e2 : ∀ v, mI (sI μ (64 * 13 + 0) a v) (64 * 13 + 2) a = q_i3 (q_lst μ a).length := fun v => by
    rw [mI_sI', if_neg (by omega)]; exact h1
  rw [e2]
  exact q_wp_mono (ls_add2 h ha hr hnew hlen) fun _ _ q => ⟨Or.inr trivial, trivial, q⟩
theorem getD_ins {l : List Nat} {r j i : Nat} (hj : j ≤ l.length) (hi : i < l.length + 1) : (l.take j ++ r :: l.drop j).getD i 0 = if i < j then l.getD i 0 else if i = j then r else l.getD (i - 1) 0 := by
  have hl : (l.take j).length = j := by rw [List.length_take]; omega
  simp only [List.getD_eq_getElem?_getD, List.getElem?_append, hl]
  by_cases h1 : i < j
  · simp only [h1, if_true, List.getElem?_take_of_lt h1]
  · simp only [h1, if_false]
    by_cases h2 : i = j
    · subst h2; simp
    · simp only [h2, if_false]
      rw [show i - j = (i - j - 1) + 1 by omega, List.getElem?_cons_succ, List.getElem?_drop, show j + (i - j - 1) = i - 1 by omega]
theorem ls_ins_tail {a r e c j : Nat} {μ ν0 : Mem} (h : WF μ) (ha : mK μ a = 14) (hr : 1 ≤ mK μ r ∧ mK μ r ≤ 13) (hnew : ∀ b, mK μ b = 14 → r ∉ q_lst μ b) (hlen : (q_lst μ a).length < 100000) (hj : j ≤ (q_lst μ a).length) (R : Rdy a e ((q_lst μ a).length + 1) c μ ν0) :
    q_wp (F_Jx4a65c_add_7a177_L38 a (q_i3 j) (some r) (q_i3 (q_lst μ a).length) (some e)) ν0 (fun _ ν => LU a ((q_lst μ a).take j ++ r :: (q_lst μ a).drop j) c μ ν) := by
  have R' := R
  obtain ⟨r1, r2, r3, r4, r5, r6, r7, r8, r9, r10, r11, r12, r13, r14, r15, r16⟩ := R
  unfold F_Jx4a65c_add_7a177_L38
  have hb : (q_lst μ a).length < 2147483648 := by omega
  have ha0 : mK ν0 a = 14 := r2.k ha (by omega)
  have hr0 : mK ν0 r = mK μ r := r2.k rfl (by omega)
  rw [wp_bn, i3_1, i3_1, i3_sub hj]
  have hlen' : ((q_lst μ a).take j ++ r :: (q_lst μ a).drop j).length = (q_lst μ a).length + 1 := by
    simp [List.length_append, List.length_take, List.length_drop]; omega
  refine wp_cpyP (by omega) (by omega) (by omega) r4 r4 (by omega) (by omega) ?_ ?_
  · intro q hq
    right
    rw [r8 (j + q) (by omega)]
    have hm : (q_lst μ a).getD (j + q) 0 ∈ q_lst μ a := by
      rw [List.getD_eq_getElem?_getD, List.getElem?_eq_getElem (by omega)]; exact List.getElem_mem _
    obtain ⟨k1, k2⟩ := (h.ls ha).2.2.1 _ hm
    simp only [Option.getD_some]
    rw [r2.k rfl (by omega)]; exact ⟨k1, k2⟩
  simp only [wp_bn, wp_stO, wp_wI, wp_rt]
  refine ⟨r4, ⟨inA_of (by omega) (by show j < mN ν0 e; omega), Or.inr (by simp only [Option.getD_some]; show 1 ≤ mK ν0 r ∧ mK ν0 r ≤ 13; rw [hr0]; exact hr)⟩, ha0, ?_⟩
  rw [i3_toNat (by omega)]
  refine Rdy.go h ha R' (((r1.cpP (by omega)).tP (by show mK ν0 e ≠ 0; omega)).sI (by show mK ν0 a ≠ 0; omega)) ((((q_Fr.cpP ν0 372 e _ 372 e _ _).tr (q_Fr.tP _ 372 e _ _)).tr (q_Fr.sI _ 834 a _)).wk rfl) rfl rfl rfl rfl rfl ?_ ?_ ?_ ?_ (by rw [hlen']; omega) (by rw [hlen']; omega) ?_ ?_ ?_
  · intro i hi
    rw [hlen'] at hi
    rw [getD_ins hj hi, aP_sI, aP_tP']
    by_cases hq : i = j
    · rw [if_pos ⟨rfl, rfl, hq⟩, if_neg (by omega), if_pos hq]
    · rw [if_neg (fun z => hq z.2.2)]
      show (if 372 = 372 ∧ e = e then va_cpy (aP ν0 372 e) (aP ν0 372 e) j (j + 1) ((q_lst μ a).length - j) i else aP ν0 372 e i) = _
      rw [if_pos ⟨rfl, rfl⟩]
      unfold va_cpy
      by_cases hij : i < j
      · rw [if_neg (by omega), if_pos hij, r8 i (by omega)]
      · rw [if_pos (by omega), if_neg hij, if_neg hq, show j + (i - (j + 1)) = i - 1 by omega, r8 (i - 1) (by omega)]
  · intro b hb; funext i; rw [aP_sI, aP_tP', if_neg (fun z => hb z.2.1)]
    show (if 372 = 372 ∧ b = e then _ else aP ν0 372 b i) = _
    rw [if_neg (fun z => hb z.2)]
  · rw [mI_sI', if_pos ⟨rfl, rfl⟩, hlen']
  · intro b hb; rw [mI_sI', if_neg (fun z => hb z.2)]; rfl
  · intro x hx
    rcases List.mem_append.mp hx with q | q
    · exact (h.ls ha).2.2.1 x (List.mem_of_mem_take q)
    · rcases List.mem_cons.mp q with q | q
      · rw [q]; exact hr
      · exact (h.ls ha).2.2.1 x (List.mem_of_mem_drop q)
  · have := h.2.2.2.2.2 a ha
    rw [← List.take_append_drop j (q_lst μ a), List.nodup_append] at this
    obtain ⟨n1, n2, n3⟩ := this
    have hra := hnew a ha
    rw [List.nodup_append, List.nodup_cons]
    refine ⟨n1, ⟨fun z => hra (List.mem_of_mem_drop z), n2⟩, fun x hx y hy q => ?_⟩
    rcases List.mem_cons.mp hy with z | z
    · exact hra (by rw [← z, ← q]; exact List.mem_of_mem_take hx)
    · exact n3 x hx y z q
  · intro b hb hba x hx
    rcases List.mem_append.mp hx with q | q
    · exact fun z => hba ((h.2.2.2.2.1 a b ha hb x (List.mem_of_mem_take q) z).symm)
    · rcases List.mem_cons.mp q with q | q
      · rw [q]; exact hnew b hb
      · exact fun z => hba ((h.2.2.2.2.1 a b ha hb x (List.mem_of_mem_drop q) z).symm)
theorem ls_ins {a r j : Nat} {μ : Mem} (h : WF μ) (ha : mK μ a = 14) (hr : 1 ≤ mK μ r ∧ mK μ r ≤ 13) (hnew : ∀ b, mK μ b = 14 → r ∉ q_lst μ b) (hlen : (q_lst μ a).length < 100000) (hj : j ≤ (q_lst μ a).length) :
    q_wp (F_Jx4a65c_add_7a177 a (q_i3 j) (some r)) μ (fun _ ν => LU a ((q_lst μ a).take j ++ r :: (q_lst μ a).drop j) (3 * ((q_lst μ a).length + 1) / 2 + 10) μ ν) := by
  obtain ⟨h1, h2, h3, h4⟩ := h.ls ha
  have h0 : ¬ mK μ a = 0 := by omega
  have hlt : ¬ q_i3 (q_lst μ a).length < q_i3 j := fun z => absurd ((i3_lt (by omega) (by omega)).mp z) (by omega)
  have hle : (0 : Int32) ≤ q_i3 j := (i3_le (a := 0) (by omega) (by omega)).mpr (by omega)
  have e1 : mI μ (64 * 13 + 2) a = q_i3 (q_lst μ a).length := h1
  unfold F_Jx4a65c_add_7a177 F_Jx4a65c_rangeCheckForAdd_d00df
  simp only [wp_bn, wp_gI, wp_wI, wp_gP, wp_pRc, wp_ite, e1, hlt, if_false, hle, if_true, wp_rt]
  refine ⟨ha, ha, ha, ha, ha, ha, ?_⟩
  have e2 : ∀ v, mI (sI μ (64 * 13 + 0) a v) (64 * 13 + 2) a = q_i3 (q_lst μ a).length := fun v => by
    rw [mI_sI', if_neg (by omega)]; exact h1
  rw [e2]
  obtain ⟨v, hv⟩ : ∃ v, v = mI μ (64 * 13 + 0) a + 1 := ⟨_, rfl⟩
  rw [← hv]
  show q_wp (len (mP μ 833 a)) (sI μ 832 a v) _
  obtain ⟨W1, l1⟩ := h.sI (f := 832) (a := a) (v := v) h0 (by omega)
  have hgrow : (∀ e, mP μ 833 a = some e → some e ≠ mT μ 0 → mN μ e = (q_lst μ a).length) → q_wp (F_Jx4a65c_grow_d5877 a) (sI μ 832 a v) (fun v7 μ' => q_wp (F_Jx4a65c_add_7a177_L38 a (q_i3 j) (some r) (q_i3 (q_lst μ a).length) v7) μ' (fun _ ν => LU a ((q_lst μ a).take j ++ r :: (q_lst μ a).drop j) (3 * ((q_lst μ a).length + 1) / 2 + 10) μ ν)) := by
    intro hc
    refine q_wp_mono (ls_grow (n := (q_lst μ a).length) W1 ha (by rw [l1]) hc) ?_
    rintro x ν ⟨e, rfl, G⟩
    exact ls_ins_tail h ha hr hnew hlen hj (Rdy.gr h ha rfl hlen G)
  rcases h4 with ⟨g1, g2⟩ | ⟨e, g1, g2, g3, g4, g5, g6, g7⟩
  · obtain ⟨t, ht, htx, htk⟩ := h.2.1.1
    have e0 : mP μ 833 a = some t := by rw [← ht]; exact g1
    rw [e0, wp_len, if_pos (by rw [mT_sI]; exact ht.symm)]
    rw [if_neg (by rw [g2]; decide)]
    exact ⟨ha, hgrow fun e he hT => absurd (by rw [← he, g1]) hT⟩
  · rw [g1, wp_len, if_neg (by rw [mT_sI]; exact g2)]
    refine ⟨by rw [mK_sI]; omega, ?_⟩
    rw [mN_sI]
    by_cases hq : (q_lst μ a).length = mN μ e
    · rw [if_neg (by rw [hq]; exact fun z => z rfl)]
      exact ⟨ha, hgrow fun e' he' _ => by rw [g1] at he'; cases he'; exact hq.symm⟩
    · have hne : ¬ q_i3 (q_lst μ a).length = Int32.ofNat (mN μ e) := fun z => hq ((i3_eq (by omega) (by omega)).mp z)
      rw [if_pos hne]
      have e3 : mP (sI μ (64 * 13 + 0) a v) (64 * 13 + 1) a = some e := g1
      rw [e3]
      exact q_wp_mono (ls_ins_tail h ha hr hnew hlen hj (Rdy.mk h ha g1 g2 (by omega) v)) fun _ _ q => q.le (by omega)
theorem getD_rem {l : List Nat} {j i : Nat} : (l.eraseIdx j).getD i 0 = if i < j then l.getD i 0 else l.getD (i + 1) 0 := by
  simp only [List.getD_eq_getElem?_getD, List.getElem?_eraseIdx]
  split <;> rfl
theorem ls_rem' {a j : Nat} {μ : Mem} (h : WF μ) (ha : mK μ a = 14) (hj : j < (q_lst μ a).length) :
    q_wp (F_Jx4a65c_remove_915e3 a (q_i3 j)) μ (fun _ ν => LU a ((q_lst μ a).eraseIdx j) 0 μ ν ∧ mX ν = mX μ) := by
  obtain ⟨h1, h2, h3, h4⟩ := h.ls ha
  have h0 : ¬ mK μ a = 0 := by omega
  rcases h4 with ⟨g1, g2⟩ | ⟨e, g1, g2, g3, g4, g5, g6, g7⟩
  · rw [g2] at hj; exact absurd hj (Nat.not_lt_zero _)
  obtain ⟨n, hn⟩ : ∃ n, n = (q_lst μ a).length := ⟨_, rfl⟩
  have e1 : mI μ (64 * 13 + 2) a = q_i3 n := by rw [hn]; exact h1
  have e0 : mP μ (64 * 13 + 1) a = some e := g1
  have hjn : q_i3 j < q_i3 n := (i3_lt (by omega) (by omega)).mpr (by omega)
  unfold F_Jx4a65c_remove_915e3 F_J15_checkIndex_7cf53 F_J3_checkIndex_8e157
  simp only [wp_bn, wp_gI, wp_gP, wp_pRc, wp_ite, e1, i3_nn (show j < 2147483648 by omega), if_false, hjn, if_true, wp_rt, e0, wp_lP]
  refine ⟨ha, ha, g3, inA_of (by omega) (by omega), ha, ?_⟩
  unfold F_Jx4a65c_fastRemove_b59b0
  simp only [wp_bn, wp_gI, wp_wI]
  refine ⟨ha, ha, ha, ?_⟩
  have e2 : ∀ v, mI (sI μ (64 * 13 + 0) a v) (64 * 13 + 2) a = q_i3 n := fun v => by
    rw [mI_sI', if_neg (by omega), e1]
  rw [e2]
  obtain ⟨v, hv⟩ : ∃ v, v = mI μ (64 * 13 + 0) a + 1 := ⟨_, rfl⟩
  rw [← hv]
  have R := Rdy.mk h ha g1 g2 (n := n) (by omega) v
  have R' := R
  obtain ⟨r1, r2, r3, r4, r5, r6, r7, r8, r9, r10, r11, r12, r13, r14, r15, r16⟩ := R
  have e5 : q_i3 n - 1 = q_i3 (n - 1) := i3_sub (a := n) (b := 1) (by omega)
  rw [e5]
  have ha0 : mK (sI μ 832 a v) a = 14 := ha
  have hel : ((q_lst μ a).eraseIdx j).length = n - 1 := by rw [List.length_eraseIdx, if_pos hj]; omega
  have hmem : ∀ x, x ∈ (q_lst μ a).eraseIdx j → x ∈ q_lst μ a := fun x hx => List.mem_of_mem_eraseIdx hx
  have fin : ∀ ν0, Zz ν0 → q_Fr [2372] (sI μ 832 a v) ν0 → mP ν0 833 = mP (sI μ 832 a v) 833 → mK ν0 = mK μ → mN ν0 = mN μ → mX ν0 = mX μ → mS ν0 = mS μ → mI ν0 = mI (sI μ 832 a v) → (∀ i, i < n - 1 → aP ν0 372 e i = some (((q_lst μ a).eraseIdx j).getD i 0)) → (∀ b, b ≠ e → aP ν0 372 b = aP (sI μ 832 a v) 372 b) →
      q_wp (F_Jx4a65c_fastRemove_b59b0_L34 a (some e) (q_i3 (n - 1))) ν0 (fun _ ν => LU a ((q_lst μ a).eraseIdx j) 0 μ ν ∧ mX ν = mX μ) := by
    intro ν0 z1 z2 z3 z4 z5 z6 z7 z8 z9 z10
    unfold F_Jx4a65c_fastRemove_b59b0_L34
    simp only [wp_bn, wp_stO, wp_wI, wp_rt]
    refine ⟨by rw [z4]; exact ha, by show mK ν0 e = 372; rw [z4]; exact g3, ⟨inA_of (by omega) (by show n - 1 < mN ν0 e; rw [z5]; omega), Or.inl trivial⟩, ?_⟩
    rw [i3_toNat (by omega)]
    refine ⟨?_, z6⟩
    refine Rdy.go h ha R' ((z1.sI (by rw [z4]; omega)).tP (by show mK ν0 e ≠ 0; rw [z4]; omega)) (((z2.tr (q_Fr.sI _ 834 a _)).tr (q_Fr.tP _ 372 e _ _)).wk rfl) z3 z4 z5 z6 z7 ?_ ?_ ?_ ?_ (by omega) (by omega) ?_ ?_ ?_
    · intro i hi
      rw [hel] at hi
      rw [aP_tP', if_neg (by omega)]
      exact z9 i hi
    · intro b hb; funext i; rw [aP_tP', if_neg (fun z => hb z.2.1)]; rw [← z10 b hb]; rfl
    · rw [mI_tP, mI_sI', if_pos ⟨rfl, rfl⟩, hel]
    · intro b hb; rw [mI_tP, mI_sI', if_neg (fun z => hb z.2), z8]
    · exact fun x hx => h3 x (hmem x hx)
    · exact List.Sublist.nodup (List.eraseIdx_sublist _ _) (h.2.2.2.2.2 a ha)
    · intro b hb hba x hx z
      exact hba ((h.2.2.2.2.1 a b ha hb x (hmem x hx) z).symm)
  rw [wp_ite]
  by_cases hq : n - 1 ≤ j
  · rw [if_pos ((i3_le (by omega) (by omega)).mpr hq)]
    refine fin _ r1 ((q_Fr.rf _).wk rfl) rfl rfl rfl rfl rfl rfl ?_ (fun _ _ => rfl)
    intro i hi
    rw [r8 i (by omega), getD_rem, if_pos (by omega)]
  · rw [if_neg (fun z => hq ((i3_le (by omega) (by omega)).mp z)), wp_bn, i3_1, i3_sub (by omega)]
    refine wp_cpyP (by omega) (by omega) (by omega) r4 r4 (by show _ ≤ mN μ e; omega) (by show _ ≤ mN μ e; omega) ?_ ?_
    · intro q hq'
      right
      rw [r8 _ (by omega)]
      have hm : (q_lst μ a).getD (j + 1 + q) 0 ∈ q_lst μ a := by
        rw [List.getD_eq_getElem?_getD, List.getElem?_eq_getElem (by omega)]; exact List.getElem_mem _
      exact h3 _ hm
    · refine fin _ (r1.cpP (by omega)) (q_Fr.cpP _ 372 e _ 372 e _ _) rfl rfl rfl rfl rfl rfl ?_ ?_
      · intro i hi
        show (if 372 = 372 ∧ e = e then va_cpy (aP (sI μ 832 a v) 372 e) (aP (sI μ 832 a v) 372 e) (j + 1) j (n - 1 - j) i else _) = _
        rw [if_pos ⟨rfl, rfl⟩, getD_rem]
        unfold va_cpy
        by_cases hij : i < j
        · rw [if_neg (by omega), if_pos hij, r8 i (by omega)]
        · rw [if_pos (by omega), if_neg hij, show j + 1 + (i - j) = i + 1 by omega, r8 (i + 1) (by omega)]
      · intro b hb; funext i
        show (if 372 = 372 ∧ b = e then _ else aP (sI μ 832 a v) 372 b i) = _
        rw [if_neg (fun z => hb z.2)]
theorem ls_rem {a j : Nat} {μ : Mem} (h : WF μ) (ha : mK μ a = 14) (hj : j < (q_lst μ a).length) :
    q_wp (F_Jx4a65c_remove_915e3 a (q_i3 j)) μ (fun _ ν => LU a ((q_lst μ a).eraseIdx j) 0 μ ν) := q_wp_mono (ls_rem' h ha hj) fun _ _ q => q.1
theorem ls_clr {a : Nat} {μ : Mem} (h : WF μ) (ha : mK μ a = 14) (hlen : (q_lst μ a).length < 100000) : q_wp (F_Jx4a65c_clear_da8c8 a) μ (fun _ ν => LU a [] 0 μ ν) := by
  obtain ⟨h1, h2, h3, h4⟩ := h.ls ha
  have h0 : ¬ mK μ a = 0 := by omega
  obtain ⟨n, hn⟩ : ∃ n, n = (q_lst μ a).length := ⟨_, rfl⟩
  have e1 : mI μ (64 * 13 + 2) a = q_i3 n := by rw [hn]; exact h1
  unfold F_Jx4a65c_clear_da8c8
  simp only [wp_bn, wp_gI, wp_gP, wp_wI]
  refine ⟨ha, ha, ha, ha, ha, ?_⟩
  have e2 : ∀ v, mI (sI μ (64 * 13 + 0) a v) (64 * 13 + 2) a = q_i3 n := fun v => by
    rw [mI_sI', if_neg (by omega), e1]
  rw [e2]
  obtain ⟨v, hv⟩ : ∃ v, v = mI μ (64 * 13 + 0) a + 1 := ⟨_, rfl⟩
  rw [← hv]
  rcases h4 with ⟨g1, g2⟩ | ⟨e, g1, g2, g3, g4, g5, g6, g7⟩
  · have hn0 : n = 0 := by rw [hn, g2]; rfl
    subst hn0
    obtain ⟨f, hf⟩ : ∃ f, FU = f + 1 := ⟨99999, rfl⟩
    rw [hf]
    unfold F_Jx4a65c_clear_da8c8_L27
    rw [wp_ite, if_pos (by decide), wp_rt]
    have e3 : sI (sI μ (64 * 13 + 0) a v) (64 * 13 + 2) a 0 = sI μ 832 a v := by
      unfold sI
      refine Prod.ext ?_ rfl
      funext f b
      show up2 (up2 (mI μ) 832 a v) 834 a 0 f b = up2 (mI μ) 832 a v f b
      unfold up2
      by_cases q : f = 834 ∧ b = a
      · rw [if_pos q, q.1, q.2, if_neg (by omega), e1]; rfl
      · rw [if_neg q]
    rw [e3]
    obtain ⟨W1, l1⟩ := h.sI (f := 832) (a := a) (v := v) h0 (by omega)
    exact ⟨W1, (q_Fr.sI μ 832 a v).wk rfl, by rw [l1]; exact g2, fun b _ _ => by rw [l1], fun b hb => hb, Nat.le_succ _, Nat.le_refl _⟩
  · have R := Rdy.mk h ha g1 g2 (n := 0) (by omega) v
    have R' := R
    obtain ⟨r1, r2, r3, r4, r5, r6, r7, r8, r9, r10, r11, r12, r13, r14, r15, r16⟩ := R
    have e4 : mP (sI μ (64 * 13 + 0) a v) (64 * 13 + 1) a = some e := g1
    rw [e4]
    refine wp_loop (σ := Unit) (fun f k _ => F_Jx4a65c_clear_da8c8_L27 f (some e) (q_i3 n) (q_i3 k)) n (fun k _ ν => Zz ν ∧ q_Fr [834, 2372] (sI μ 832 a v) ν ∧ mP ν 833 = mP μ 833 ∧ mK ν = mK μ ∧ mN ν = mN μ ∧ mX ν = mX μ ∧ mS ν = mS μ ∧ (∀ b, b ≠ e → aP ν 372 b = aP μ 372 b) ∧ mI ν 834 a = 0 ∧ (∀ b, b ≠ a → mI ν 834 b = mI μ 834 b)) _ ?_ ?_ FU 0 () _ (by omega) (by show n - 0 < 100000 ; omega) ?_
    · rintro f s ν ⟨z1, z2, z3, z4, z5, z6, z7, z8, z9, z10⟩
      unfold F_Jx4a65c_clear_da8c8_L27
      rw [wp_ite, if_pos ((i3_le (by omega) (by omega)).mpr (Nat.le_refl _)), wp_rt]
      exact Rdy.go h ha R' z1 z2 z3 z4 z5 z6 z7 (fun i hi => absurd hi (Nat.not_lt_zero _)) z8 z9 (fun b hb => by rw [z10 b hb, r10]) (Nat.le_refl _) (Nat.zero_le _) (fun r hr => absurd hr (by simp)) (by simp) (fun _ _ _ r hr => absurd hr (by simp))
    · rintro f k s ν hk ⟨z1, z2, z3, z4, z5, z6, z7, z8, z9, z10⟩ ih
      show q_wp (F_Jx4a65c_clear_da8c8_L27 (f + 1) (some e) (q_i3 n) (q_i3 k)) ν _
      unfold F_Jx4a65c_clear_da8c8_L27
      rw [wp_ite, if_neg (fun z => absurd ((i3_le (by omega) (by omega)).mp z) (by omega)), wp_bn, wp_stO, i3_1, i3_toNat (by omega)]
      refine ⟨by rw [z4]; exact g3, ⟨inA_of (by omega) (by rw [z5]; omega), Or.inl rfl⟩, ?_⟩
      refine ih () _ ⟨z1.tP (by rw [z4]; omega), (z2.tr (q_Fr.tP ν 372 e k none)).wk rfl, z3, z4, z5, z6, z7, ?_, z9, z10⟩
      intro b hb; funext i; rw [aP_tP', if_neg (fun z => hb z.2.1), z8 b hb]
    · refine ⟨r1.sI (by show mK μ a ≠ 0; omega), (q_Fr.sI _ 834 a 0).wk rfl, rfl, rfl, rfl, rfl, rfl, fun _ _ => rfl, ?_, fun b hb => ?_⟩
      · rw [mI_sI']; simp
      · rw [mI_sI']; simp [hb]; rw [mI_sI']; simp
def q_LN (a : Nat) (μ ν : Mem) : Prop := WF ν ∧ q_Fr [832, 833] μ ν ∧ q_lst ν a = [] ∧ (∀ b, mK μ b = 14 → q_lst ν b = q_lst μ b) ∧ mK ν a = 14 ∧ (∀ b, b ≠ a → mK ν b = mK μ b) ∧ (∀ b, mN ν b = mN μ b) ∧ mX ν = mX μ + 1 ∧ mS ν = mS μ + 3 ∧ a = mX μ
theorem ls_new {μ : Mem} (h : WF μ) {Q : Option Nat → Mem → Prop} (hQ : ∀ ν, q_LN (mX μ) μ ν → Q (some (mX μ)) ν) : q_wp (bn (newO 13 3) fun r1 => bn (pRc 13 r1) fun b2 => bn (F_Jx4a65c_init_da8c8 b2) fun _ => rt r1) μ Q := by
  have hz := h.z
  rw [wp_bn, wp_newO hz]
  unfold F_Jx4a65c_init_da8c8 F_Jxc12de_init_da8c8 F_Jxa1e45_init_da8c8
  simp only [wp_bn, wp_pRc, wp_rt, wp_wI, wp_cK, wp_wP]
  have hk : mK (q_al (13 + 1) 0 3 μ) (mX μ) = 14 := by rw [mK_al, if_pos rfl]
  refine ⟨hk, hk, hk, hk, hk, ?_⟩
  have hkb : ∀ b, b ≠ mX μ → mK (q_al (13 + 1) 0 3 μ) b = mK μ b := fun b hb => by rw [mK_al, if_neg hb]
  have hz1 := hz.nw 14 0 3
  have hz2 := hz1.sI (f := 832) (a := mX μ) (v := 0) (by rw [hk]; omega)
  have hz3 := hz2.sP (f := 833) (a := mX μ) (v := mT μ 0) (by rw [mK_sI, hk]; omega)
  obtain ⟨ν, hν⟩ : ∃ ν, ν = sP (sI (q_al 14 0 3 μ) 832 (mX μ) 0) 833 (mX μ) (mT μ 0) := ⟨_, rfl⟩
  have hQ' := hQ ν
  show Q _ (sP (sI (q_al 14 0 3 μ) 832 (mX μ) 0) 833 (mX μ) (mT μ 0))
  rw [← hν] at hz3 ⊢
  have fr : q_Fr [832, 833] μ ν := by rw [hν]; exact ((((q_Fr.nw hz 14 0 3).tr (q_Fr.sI _ 832 _ _)).tr (q_Fr.sP _ 833 _ _)).wk rfl)
  have k1 : mK ν (mX μ) = 14 := by rw [hν]; exact hk
  have k2 : ∀ b, b ≠ mX μ → mK ν b = mK μ b := fun b hb => by rw [hν]; exact hkb b hb
  have k3 : ∀ b, mN ν b = mN μ b := fun b => by
    rw [hν]; show mN (q_al 14 0 3 μ) b = _; rw [mN_al]; split
    · rename_i q; rw [q, (hz (mX μ) (Nat.le_refl _)).2.2.2.2.2.2.2]
    · rfl
  have p1 : mP ν 833 (mX μ) = mT μ 0 := by rw [hν, mP_sP']; simp
  have p2 : ∀ b, b ≠ mX μ → mP ν 833 b = mP μ 833 b := fun b hb => by rw [hν, mP_sP']; simp [hb]; rfl
  have i1 : mI ν 834 = mI μ 834 := fr.i 834 rfl
  have i0 : mI ν 834 (mX μ) = 0 := by rw [i1]; exact (hz _ (Nat.le_refl _)).1 834
  have l0 : q_lst ν (mX μ) = [] := by unfold q_lst; rw [i0]; rfl
  have a1 : aP ν 372 = aP μ 372 := fr.ap 372 rfl
  have l1 : ∀ b, b ≠ mX μ → q_lst ν b = q_lst μ b := fun b hb => by unfold q_lst ed; rw [i1, p2 b hb, a1]
  have hx : mX ν = mX μ + 1 := by rw [hν]; rfl
  have nb : ∀ b, mK μ b = 14 → b ≠ mX μ := fun b hb => by have := hz.lt (a := b) (by omega); omega
  obtain ⟨t, ht, htx, htk⟩ := h.2.1.1
  refine hQ' ⟨⟨hz3, ?_, ?_, ?_, ?_, ?_⟩, fr, l0, fun b hb => l1 b (nb b hb), k1, k2, k3, hx, by rw [hν]; rfl, rfl⟩
  · unfold TT; rw [fr.t]
    exact ⟨⟨t, ht, by omega, by rw [k2 t (by omega)]; exact htk⟩, h.2.1.2⟩
  · intro b hb
    by_cases hbx : b = mX μ
    · subst hbx
      exact ⟨0, i0, by omega, Or.inl ⟨by rw [fr.t]; exact p1, rfl⟩⟩
    · rw [k2 b hbx] at hb
      obtain ⟨n, q1, q2, q3⟩ := h.2.2.1 b hb
      refine ⟨n, by rw [i1]; exact q1, q2, ?_⟩
      rcases q3 with ⟨c1, c2⟩ | ⟨e, c0, c1, c2, c3, c4, c5, c6⟩
      · exact Or.inl ⟨by rw [p2 b hbx, fr.t]; exact c1, c2⟩
      · refine Or.inr ⟨e, by rw [p2 b hbx]; exact c0, by rw [fr.t]; exact c1, fr.k c2 (by omega), by rw [k3]; exact c3, by rw [k3]; exact c4, by rw [k3]; exact c5, fun i hi => ?_⟩
        obtain ⟨r, z1, z2, z3⟩ := c6 i hi
        exact ⟨r, by rw [a1]; exact z1, by rw [fr.k rfl (by omega)]; exact z2, by rw [fr.k rfl (by omega)]; exact z3⟩
  · intro b1 b2 hb1 hb2 hne hp
    rw [fr.t]
    by_cases q1 : b1 = mX μ
    · rw [q1]; exact p1
    · by_cases q2 : b2 = mX μ
      · rw [hp, q2]; exact p1
      · rw [p2 b1 q1, p2 b2 q2] at hp
        rw [p2 b1 q1]
        rw [k2 b1 q1] at hb1; rw [k2 b2 q2] at hb2
        exact h.2.2.2.1 b1 b2 hb1 hb2 hne hp
  · intro b1 b2 hb1 hb2 r r1 r2
    by_cases q1 : b1 = mX μ
    · rw [q1, l0] at r1; exact absurd r1 (by simp)
    · by_cases q2 : b2 = mX μ
      · rw [q2, l0] at r2; exact absurd r2 (by simp)
      · rw [l1 b1 q1] at r1; rw [l1 b2 q2] at r2
        rw [k2 b1 q1] at hb1; rw [k2 b2 q2] at hb2
        exact h.2.2.2.2.1 b1 b2 hb1 hb2 r r1 r2
  · intro b hb
    by_cases q1 : b = mX μ
    · rw [q1, l0]; simp
    · rw [l1 b q1]; rw [k2 b q1] at hb; exact h.2.2.2.2.2 b hb

def q_KT : List (Nat × Nat) := [(0, 12), (1, 5), (2, 115), (3, 120), (4, 8), (5, 14), (6, 136), (7, 144), (8, 157), (9, 3), (10, 14), (11, 14), (12, 14), (13, 3), (14, 14), (15, 14), (16, 14), (17, 3), (18, 14), (19, 14), (20, 14), (21, 3), (22, 14), (23, 14), (24, 14), (25, 3), (26, 14), (27, 14), (28, 14), (29, 3), (30, 14), (31, 14), (32, 14), (33, 14), (34, 14), (35, 14), (36, 14), (37, 14), (38, 13), (39, 160), (40, 168), (41, 176), (42, 184), (43, 192), (44, 200), (45, 209), (46, 218), (47, 226), (48, 232), (49, 241), (50, 248), (51, 256), (52, 264), (53, 274), (54, 280), (55, 288), (56, 296), (57, 305), (58, 312), (59, 321), (60, 328), (61, 336), (62, 344), (63, 352), (64, 360), (65, 377)]
def q_PT : List (Nat × Nat × Nat) := [(704, 0, 1), (705, 0, 4), (706, 0, 8), (707, 0, 33), (708, 0, 34), (709, 0, 35), (710, 0, 36), (711, 0, 37), (256, 1, 2), (265, 1, 3), (448, 4, 5), (449, 4, 6), (450, 4, 7),
  (128, 9, 10), (129, 9, 11), (130, 9, 12), (128, 13, 14), (129, 13, 15), (130, 13, 16), (128, 17, 18), (129, 17, 19), (130, 17, 20), (128, 21, 22), (129, 21, 23), (130, 21, 24), (128, 25, 26), (129, 25, 27), (130, 25, 28), (128, 29, 30), (129, 29, 31), (130, 29, 32),
  (768, 38, 39), (772, 38, 40), (773, 38, 41), (774, 38, 42), (775, 38, 43), (776, 38, 44), (779, 38, 45), (780, 38, 46), (781, 38, 47), (782, 38, 48), (783, 38, 49), (784, 38, 50), (785, 38, 51), (786, 38, 52), (787, 38, 53), (788, 38, 54), (790, 38, 55), (793, 38, 56), (794, 38, 57), (795, 38, 58), (796, 38, 59), (797, 38, 60), (799, 38, 61), (801, 38, 62), (814, 38, 63), (815, 38, 64)]
def NT : List (Nat × Nat) := [(2, 600), (3, 60), (6, 6), (7, 60), (8, 6), (39, 600), (40, 30), (41, 30), (42, 30), (43, 1800), (44, 1800), (45, 12), (46, 12), (47, 12), (48, 72), (49, 72), (50, 9600), (51, 9600), (52, 6), (53, 6), (54, 600), (55, 4900), (56, 906), (57, 1812), (58, 10872), (59, 10872), (60, 400), (61, 240), (62, 560), (63, 6), (64, 6), (65, 1)]
def K0 (μ : Mem) (b : Nat) : Prop := (∀ p ∈ q_KT, mK μ (b + p.1) = p.2) ∧ (∀ p ∈ q_PT, mP μ p.1 (b + p.2.1) = some (b + p.2.2)) ∧ (∀ p ∈ NT, mN μ (b + p.1) = p.2) ∧ (∀ i, i < 6 → aP μ 157 (b + 8) i = some (b + (9 + 4 * i)))
def STAT : List Nat := [704, 705, 706, 707, 708, 709, 710, 711, 256, 265, 448, 449, 450, 128, 129, 130, 768, 772, 773, 774, 775, 776, 779, 780, 781, 782, 783, 784, 785, 786, 787, 788, 790, 793, 794, 795, 796, 797, 799, 801, 814, 815, 2157]
def disj (S T : List Nat) : Bool := S.all fun x => ! T.contains x
theorem disj_nc {S T : List Nat} (h : disj S T = true) {x : Nat} (hx : x ∈ S) : T.contains x = false := by
  have := List.all_eq_true.mp h x hx
  simpa using this
theorem K0.k {μ : Mem} {b : Nat} (h : K0 μ b) (o k : Nat) (hm : (o, k) ∈ q_KT) : mK μ (b + o) = k := h.1 (o, k) hm
theorem K0.p {μ : Mem} {b : Nat} (h : K0 μ b) (t o o' : Nat) (hm : (t, o, o') ∈ q_PT) : mP μ t (b + o) = some (b + o') := h.2.1 (t, o, o') hm
theorem K0.n {μ : Mem} {b : Nat} (h : K0 μ b) (o n : Nat) (hm : (o, n) ∈ NT) : mN μ (b + o) = n := h.2.2.1 (o, n) hm
theorem K0.fr {μ ν : Mem} {b : Nat} {S : List Nat} (h : K0 μ b) (f : q_Fr S μ ν) (hS : disj STAT S = true) : K0 ν b := by
  obtain ⟨h1, h2, h3, h4⟩ := h
  have kk : ∀ p ∈ q_KT, p.2 ≠ 0 := by decide
  have nk : ∀ p ∈ NT, ∃ k, (p.1, k) ∈ q_KT := by
    have : NT.all (fun p => q_KT.any fun q => q.1 == p.1) = true := by decide
    intro p hp
    obtain ⟨q, hq, hqp⟩ := List.any_eq_true.mp (List.all_eq_true.mp this p hp)
    exact ⟨q.2, by rw [← (beq_iff_eq.mp hqp)]; exact hq⟩
  have pt : ∀ p ∈ q_PT, p.1 ∈ STAT := by decide
  refine ⟨fun p hp => f.k (h1 p hp) (kk p hp), fun p hp => ?_, fun p hp => ?_, fun i hi => ?_⟩
  · rw [f.p p.1 (disj_nc hS (pt p hp))]; exact h2 p hp
  · obtain ⟨k, hk⟩ := nk p hp
    exact f.n (by rw [h1 (p.1, k) hk]; exact kk _ hk) (h3 p hp)
  · rw [f.ap 157 (disj_nc hS (by decide))]; exact h4 i hi
theorem K0_sI (μ : Mem) (b f a : Nat) (v : Int32) : K0 (sI μ f a v) b = K0 μ b := rfl
theorem K0_sL (μ : Mem) (b f a : Nat) (v : Int64) : K0 (sL μ f a v) b = K0 μ b := rfl
theorem K0_tI (μ : Mem) (b k a i : Nat) (v : Int32) : K0 (tI μ k a i v) b = K0 μ b := rfl
theorem K0_tL (μ : Mem) (b k a i : Nat) (v : Int64) : K0 (tL μ k a i v) b = K0 μ b := rfl
theorem K0_nE (μ : Mem) (b : Nat) : K0 (nE μ) b = K0 μ b := rfl
theorem K0.mo {μ : Mem} {b i : Nat} (h : K0 μ b) (hi : i < 6) : mK μ (b + (9 + 4 * i)) = 3 ∧ mP μ 128 (b + (9 + 4 * i)) = some (b + (10 + 4 * i)) ∧ mP μ 129 (b + (9 + 4 * i)) = some (b + (11 + 4 * i)) ∧ mP μ 130 (b + (9 + 4 * i)) = some (b + (12 + 4 * i)) ∧ mK μ (b + (10 + 4 * i)) = 14 ∧ mK μ (b + (11 + 4 * i)) = 14 ∧ mK μ (b + (12 + 4 * i)) = 14 := by
  have : ∀ j : Fin 6, (9 + 4 * j.1, 3) ∈ q_KT ∧ (128, 9 + 4 * j.1, 10 + 4 * j.1) ∈ q_PT ∧ (129, 9 + 4 * j.1, 11 + 4 * j.1) ∈ q_PT ∧ (130, 9 + 4 * j.1, 12 + 4 * j.1) ∈ q_PT ∧ (10 + 4 * j.1, 14) ∈ q_KT ∧ (11 + 4 * j.1, 14) ∈ q_KT ∧ (12 + 4 * j.1, 14) ∈ q_KT := by decide
  obtain ⟨q1, q2, q3, q_q4, q5, q6, q7⟩ := this ⟨i, hi⟩
  exact ⟨h.k _ _ q1, h.p _ _ _ q2, h.p _ _ _ q3, h.p _ _ _ q_q4, h.k _ _ q5, h.k _ _ q6, h.k _ _ q7⟩
theorem lgc_lt (x y : Int64) : lg_cmp x y < 0 ↔ x.toInt < y.toInt := by
  unfold lg_cmp
  rw [← Int64.lt_iff_toInt_lt]
  by_cases h1 : x > y
  · rw [if_pos h1]
    constructor
    · intro h; exact absurd h (by decide)
    · intro h; exact absurd (show y < x from h1) (Int64.lt_asymm h)
  · rw [if_neg h1]
    by_cases h2 : x = y
    · rw [if_pos h2, h2]
      constructor
      · intro h; exact absurd h (by decide)
      · intro h; exact absurd h (Int64.lt_irrefl)
    · rw [if_neg h2]
      constructor
      · intro _
        rw [gt_iff_lt, Int64.lt_iff_toInt_lt] at h1
        rw [Int64.lt_iff_toInt_lt]
        have : x.toInt ≠ y.toInt := fun q => h2 (Int64.toInt_inj.mp q)
        omega
      · intro _; decide
theorem lgc_gt (x y : Int64) : 0 < lg_cmp x y ↔ y.toInt < x.toInt := by
  unfold lg_cmp
  rw [← Int64.lt_iff_toInt_lt]
  by_cases h1 : x > y
  · rw [if_pos h1]
    constructor
    · intro _; exact h1
    · intro _; decide
  · rw [if_neg h1]
    constructor
    · intro h
      by_cases h2 : x = y
      · rw [if_pos h2] at h; exact absurd h (by decide)
      · rw [if_neg h2] at h; exact absurd h (by decide)
    · intro h; exact absurd h h1
theorem lgc_eq (x y : Int64) : lg_cmp x y = 0 ↔ x = y := by
  unfold lg_cmp
  by_cases h1 : x > y
  · rw [if_pos h1]
    constructor
    · intro h; exact absurd h (by decide)
    · intro h; rw [h] at h1; exact absurd h1 (Int64.lt_irrefl)
  · rw [if_neg h1]
    by_cases h2 : x = y
    · rw [if_pos h2]; exact ⟨fun _ => h2, fun _ => rfl⟩
    · rw [if_neg h2]
      exact ⟨fun h => absurd h (by decide), fun h => absurd h h2⟩
theorem lgc_le (x y : Int64) : lg_cmp x y ≤ 0 ↔ x.toInt ≤ y.toInt := by
  have := lgc_gt x y
  rw [Int32.le_iff_toInt_le]
  rw [Int32.lt_iff_toInt_lt] at this
  omega
theorem lgc_ge (x y : Int64) : 0 ≤ lg_cmp x y ↔ y.toInt ≤ x.toInt := by
  have := lgc_lt x y
  rw [Int32.le_iff_toInt_le]
  rw [Int32.lt_iff_toInt_lt] at this
  omega
theorem in_wp {x lo hi : Int64} {μ : Mem} : F_X12_in x lo hi μ = some (if lo.toInt ≤ x.toInt ∧ x.toInt ≤ hi.toInt then 1 else 0, μ) := by
  apply eq_wp
  unfold F_X12_in
  simp only [wp_ite, wp_rz, lgc_lt, lgc_gt]
  by_cases h1 : x.toInt < lo.toInt
  · rw [if_pos h1, if_neg (by omega)]; simp
  · rw [if_neg h1]
    by_cases h2 : hi.toInt < x.toInt
    · rw [if_pos h2, if_neg (by omega)]; simp
    · rw [if_neg h2, if_pos (by omega)]; simp
abbrev q_inR (p : Int32) (n : Nat) : Prop := 0 ≤ p.toInt ∧ p.toInt < n
theorem inR_i3 {p : Int32} {n : Nat} (h : q_inR p n) : ∃ i, i < n ∧ p = q_i3 i := by
  obtain ⟨h1, h2⟩ := h
  have hlt := p.toInt_lt
  refine ⟨p.toInt.toNat, by omega, ?_⟩
  apply Int32.toInt_inj.mp
  rw [i3_toInt (by omega)]; omega
theorem i3_inR {i n : Nat} (h : i < n) (hn : n < 2147483648) : q_inR (q_i3 i) n := by
  unfold q_inR; rw [i3_toInt (by omega)]; omega
theorem sub1 {n : Nat} (h : n < 2147483648) : (q_i3 n - 1).toInt = (n : Int) - 1 := by
  rw [Int32.toInt_sub, i3_toInt h]
  show ((n : Int) - 1).bmod _ = _
  rw [Int.bmod_eq_of_le] <;> omega
theorem in_cnt {p : Int32} {n : Nat} {μ : Mem} (h : n < 2147483648) : F_X12_in p.toInt64 0 ((q_i3 n - 1).toInt64) μ = some (if q_inR p n then 1 else 0, μ) := by
  rw [in_wp]
  have e : ((0 : Int64).toInt ≤ p.toInt64.toInt ∧ p.toInt64.toInt ≤ ((q_i3 n - 1).toInt64).toInt) ↔ q_inR p n := by
    rw [Int32.toInt_toInt64, Int32.toInt_toInt64, sub1 h]
    show (0 ≤ _ ∧ _) ↔ (0 ≤ _ ∧ _)
    omega
  simp only [e]
theorem in_lit {p : Int32} {n : Nat} {hi : Int64} {μ : Mem} (h : hi.toInt = (n : Int) - 1) : F_X12_in p.toInt64 0 hi μ = some (if q_inR p n then 1 else 0, μ) := by
  rw [in_wp]
  have e : ((0 : Int64).toInt ≤ p.toInt64.toInt ∧ p.toInt64.toInt ≤ hi.toInt) ↔ q_inR p n := by
    rw [Int32.toInt_toInt64, h]
    show (0 ≤ _ ∧ _) ↔ (0 ≤ _ ∧ _)
    omega
  simp only [e]
theorem r_isMonth {p : Int32} {μ : Mem} : F_X12_isMonth p μ = some (if q_inR p 6 then 1 else 0, μ) := by
  apply eq_wp
  unfold F_X12_isMonth
  rw [wp_bn, wp_eq (in_lit (n := 6) rfl), wp_rz]
  refine ⟨?_, rfl, rfl⟩
  by_cases h : q_inR p 6
  · rw [if_pos h]; exact Or.inr rfl
  · rw [if_neg h]; exact Or.inl rfl
theorem c_isMonth {p : Int32} {μ : Mem} : F_X11_isMonth p μ = some (if q_inR p 6 then 1 else 0, μ) := by
  apply eq_wp
  unfold F_X11_isMonth
  simp only [wp_ite, wp_rz, Int32.lt_iff_toInt_lt, Int32.le_iff_toInt_le]
  show if p.toInt < 0 then _ else if 6 ≤ p.toInt then _ else _
  by_cases h1 : p.toInt < 0
  · rw [if_pos h1, if_neg (by omega)]; simp
  · rw [if_neg h1]
    by_cases h2 : (6 : Int) ≤ p.toInt
    · rw [if_pos h2, if_neg (by omega)]; simp
    · rw [if_neg h2, if_pos (by omega)]; simp
theorem of_list {p : Int32} {f c a b n : Nat} {μ : Mem} (hW : WF μ) (hb : mK μ b = 12) (hp : mP μ (64 * 11 + f) b = some a) (ha : mK μ a = 14) (hn : (q_lst μ a).length = n) (hc : ∀ r, r ∈ q_lst μ a → mK μ r = c + 1) :
    (if p < 0 then rt none else bn (gP 11 f (some b)) fun v1 => bn (pRc 13 v1) fun b2 => bn (F_Jx4a65c_size_8abf5 b2) fun v3 => if v3 ≤ p then rt none else bn (gP 11 f (some b)) fun v4 => bn (pRc 13 v4) fun b5 => bn (F_Jx4a65c_get_915e3 b5 p) fun v6 => bn (cst c v6) fun _ => rt v6) μ = some (if q_inR p n then some ((q_lst μ a).getD p.toNatClampNeg 0) else none, μ) := by
  apply eq_wp
  have hl : n ≤ 100000 := by rw [← hn]; exact (hW.ls ha).2.1
  simp only [wp_ite, wp_rt, wp_bn, wp_gP, hp, wp_pRc, wp_eq (ls_size hW ha), hn]
  by_cases h : q_inR p n
  · obtain ⟨i, hi, rfl⟩ := inR_i3 h
    rw [if_neg (i3_nn (by omega)), if_neg (fun z => absurd ((i3_le (by omega) (by omega)).mp z) (by omega)), if_pos h, i3_toNat (by omega)]
    refine ⟨hb, ha, hb, ha, ?_⟩
    rw [wp_eq (ls_get hW ha (by omega)), wp_cst]
    refine ⟨hc _ ?_, rfl, rfl⟩
    rw [List.getD_eq_getElem?_getD, List.getElem?_eq_getElem (by omega)]; exact List.getElem_mem _
  · rw [if_neg h]
    unfold q_inR at h
    by_cases h1 : p < 0
    · rw [if_pos h1]; exact ⟨rfl, trivial⟩
    · rw [if_neg h1]
      have h2 : q_i3 n ≤ p := by
        rw [Int32.le_iff_toInt_le, i3_toInt (by omega)]
        rw [Int32.lt_iff_toInt_lt] at h1
        have : (0 : Int32).toInt = 0 := rfl
        omega
      rw [if_pos h2]
      exact ⟨hb, ha, rfl, trivial⟩
