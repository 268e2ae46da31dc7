abbrev q_Tok : Type := Int32 × Int32
abbrev q_Er : Type := Int32 × Nat
abbrev q_Val : Type := (Nat → Int32) → Int32
abbrev q_Pr : Type := Nat × Nat × List Int32 × List q_Tok × q_Val
abbrev q_Res : Type := Except q_Er q_Pr
abbrev q_Lx : Type := (Nat → Int32) × (Nat → Int32) × (Nat → Nat) × (Nat → Nat)
def lxk (x : q_Lx) (q : Nat) : Int32 := x.1 q
def lxv (x : q_Lx) (q : Nat) : Int32 := x.2.1 q
def lxf (x : q_Lx) (q : Nat) : Nat := x.2.2.1 q
def lxn (x : q_Lx) (q : Nat) : Nat := x.2.2.2 q
def rkk (c : Int32) : Int32 := if c = 17 then 0 else if c = 16 then 1 else if c = -1 then 4 else if c < 16 then 2 else 3
def rvv (c n : Int32) : Int32 := if c = 16 then n else if c < 6 then c else if c < 12 then c + 4 else if c < 16 then c - 6 else c
def tkq (x : q_Lx) (q : Nat) : q_Tok := (rkk (lxk x q), rvv (lxk x q) (lxv x q))
def thn {α β : Type} (r : Except q_Er α) (f : α → Except q_Er β) : Except q_Er β := match r with
  | .error e => .error e
  | .ok a => f a
theorem thn_ok {α β : Type} {r : Except q_Er α} {f : α → Except q_Er β} {z : β} (h : thn r f = .ok z) : ∃ a, r = .ok a ∧ f a = .ok z := by
  unfold thn at h
  cases r with
  | error e => cases h
  | ok a => exact ⟨a, rfl, h⟩
theorem thn_er {α β : Type} {e : q_Er} {f : α → Except q_Er β} : thn (.error e) f = .error e := rfl
theorem thn_go {α β : Type} {a : α} {f : α → Except q_Er β} : thn (.ok a) f = f a := rfl
def adE (x : q_Lx) (q : Nat) : Except q_Er Nat := if lxk x (lxn x q) = -1 then .error (1, lxf x (lxn x q)) else .ok (lxn x q)
def tkE (x : q_Lx) (t q : Nat) : Except q_Er Nat := if 60 ≤ t then .error (4, lxf x q) else adE x q
abbrev q_Op : Type := Option ((Nat → Nat → q_Res) × (Nat → Nat → q_Res))
def pB1 (x : q_Lx) (op : q_Op) (q t : Nat) : q_Res := match op with
  | none => .error (3, lxf x q)
  | some EF => thn (tkE x t q) fun q1 => thn (EF.1 q1 (t + 1)) fun r => if lxk x r.1 = 41 then thn (tkE x r.2.1 r.1) fun q3 => .ok (q3, r.2.1 + 1, r.2.2.1, tkq x q :: (r.2.2.2.1 ++ [tkq x r.1]), r.2.2.2.2) else .error (2, lxf x r.1)
def pB2 (x : q_Lx) (op : q_Op) (k : Int32) (q t : Nat) : q_Res := match op with
  | none => .error (3, lxf x q)
  | some EF => thn (tkE x t q) fun q1 => thn (EF.1 q1 (t + 1)) fun r => if lxk x r.1 = 44 then thn (tkE x r.2.1 r.1) fun q3 => thn (EF.1 q3 (r.2.1 + 1)) fun u => if lxk x u.1 = 41 then thn (tkE x u.2.1 u.1) fun q5 => .ok (q5, u.2.1 + 1, r.2.2.1 ++ u.2.2.1, tkq x q :: (r.2.2.2.1 ++ tkq x r.1 :: (u.2.2.2.1 ++ [tkq x u.1])), fun w => cmb k (r.2.2.2.2 w) (u.2.2.2.2 w)) else .error (2, lxf x u.1) else .error (2, lxf x r.1)
def pNg (x : q_Lx) (op : q_Op) (q t : Nat) : q_Res := match op with
  | none => .error (3, lxf x q)
  | some EF => thn (tkE x t q) fun q1 => thn (EF.2 q1 (t + 1)) fun r => .ok (r.1, r.2.1, r.2.2.1 ++ [-7], tkq x q :: r.2.2.2.1, fun w => - r.2.2.2.2 w)
def pMM (x : q_Lx) (op : q_Op) (q t : Nat) : q_Res := thn (tkE x t q) fun q1 => if lxk x q1 = 40 then thn (pB2 x op (lxk x q) q1 (t + 1)) fun r => .ok (r.1, r.2.1, r.2.2.1 ++ [- lxk x q], tkq x q :: r.2.2.2.1, r.2.2.2.2) else .error (2, lxf x q1)
def pFac (x : q_Lx) (op : q_Op) (q t : Nat) : q_Res :=
  if lxk x q = 16 then thn (tkE x t q) fun q1 => .ok (q1, t + 1, [lxv x q], [tkq x q], fun _ => lxv x q)
  else if ¬ lxk x q < 6 ∧ lxk x q < 12 then thn (tkE x t q) fun q1 => .ok (q1, t + 1, [-1 - (lxk x q - 6)], [tkq x q], fun w => w (lxk x q - 6).toNatClampNeg)
  else if lxk x q = 45 then pNg x op q t
  else if lxk x q = 40 then pB1 x op q t
  else if lxk x q = 14 ∨ lxk x q = 15 then pMM x op q t
  else .error (2, lxf x q)
def pLp (x : q_Lx) (s1 s2 : Int32) (F : Nat → Nat → q_Res) : Nat → q_Pr → q_Res
  | 0, r => .error (4, lxf x r.1)
  | g + 1, r => if lxk x r.1 = s1 ∨ lxk x r.1 = s2 then thn (tkE x r.2.1 r.1) fun q1 => thn (F q1 (r.2.1 + 1)) fun u => pLp x s1 s2 F g (u.1, u.2.1, r.2.2.1 ++ (u.2.2.1 ++ [- lxk x r.1]), r.2.2.2.1 ++ tkq x r.1 :: u.2.2.2.1, fun w => cmb (lxk x r.1) (r.2.2.2.2 w) (u.2.2.2.2 w)) else .ok r
def pPrt (x : q_Lx) (op : q_Op) (q t : Nat) : q_Res := thn (pFac x op q t) fun r => pLp x 42 47 (pFac x op) 61 r
def pSum (x : q_Lx) (op : q_Op) (q t : Nat) : q_Res := thn (pPrt x op q t) fun r => pLp x 43 45 (pPrt x op) 61 r
def pCnd (x : q_Lx) (op : q_Op) (q t : Nat) : q_Res := thn (pSum x op q t) fun r => if lxk x r.1 = 60 ∨ lxk x r.1 = 62 ∨ lxk x r.1 = 61 then thn (tkE x r.2.1 r.1) fun q1 => thn (pSum x op q1 (r.2.1 + 1)) fun u => .ok (u.1, u.2.1, r.2.2.1 ++ (u.2.2.1 ++ [- lxk x r.1]), r.2.2.2.1 ++ tkq x r.1 :: u.2.2.2.1, fun w => cmb (lxk x r.1) (r.2.2.2.2 w) (u.2.2.2.2 w)) else .ok r
def pQ (x : q_Lx) (op : q_Op) (r : q_Pr) : q_Res := match op with
  | none => .error (3, lxf x r.1)
  | some EF => thn (tkE x r.2.1 r.1) fun q1 => thn (EF.1 q1 (r.2.1 + 1)) fun u => if lxk x u.1 = 58 then thn (tkE x u.2.1 u.1) fun q3 => thn (EF.1 q3 (u.2.1 + 1)) fun y => .ok (y.1, y.2.1, r.2.2.1 ++ (u.2.2.1 ++ (y.2.2.1 ++ [-8])), r.2.2.2.1 ++ tkq x r.1 :: (u.2.2.2.1 ++ tkq x u.1 :: y.2.2.2.1), fun w => if r.2.2.2.2 w = 0 then y.2.2.2.2 w else u.2.2.2.2 w) else .error (2, lxf x u.1)
def pExp (x : q_Lx) (op : q_Op) (q t : Nat) : q_Res := thn (pCnd x op q t) fun r => if lxk x r.1 = 63 then pQ x op r else .ok r
def pLv (x : q_Lx) : Nat → (Nat → Nat → q_Res) × (Nat → Nat → q_Res)
  | 0 => (pExp x none, pFac x none)
  | d + 1 => (pExp x (some (pLv x d)), pFac x (some (pLv x d)))
def q_Good (x : q_Lx) (t : Nat) (r : q_Pr) : Prop := t < r.2.1 ∧ r.2.1 ≤ 60 ∧ r.2.2.1.length + t ≤ r.2.1 ∧ r.2.2.2.1.length + t = r.2.1 ∧ lxk x r.1 ≠ -1 ∧ ∀ w st, q_runC w r.2.2.1 st = r.2.2.2.2 w :: st
def GoodF (x : q_Lx) (F : Nat → Nat → q_Res) : Prop := ∀ q t r, F q t = .ok r → q_Good x t r
def lOK (x : q_Lx) : Prop := ∀ q, lxk x q = 16 → ¬ lxv x q < 0
theorem adE_ok {x : q_Lx} {q q1 : Nat} (h : adE x q = .ok q1) : q1 = lxn x q ∧ lxk x (lxn x q) ≠ -1 := by
  unfold adE at h
  by_cases e : lxk x (lxn x q) = -1
  · rw [if_pos e] at h; cases h
  · rw [if_neg e] at h; cases h; exact ⟨rfl, e⟩
theorem tkE_ok {x : q_Lx} {t q q1 : Nat} (h : tkE x t q = .ok q1) : t < 60 ∧ q1 = lxn x q ∧ lxk x (lxn x q) ≠ -1 := by
  unfold tkE at h
  by_cases e : 60 ≤ t
  · rw [if_pos e] at h; cases h
  · rw [if_neg e] at h; exact ⟨by omega, adE_ok h⟩
theorem run_bin {w : Nat → Int32} {c1 c2 st : List Int32} {a b k : Int32} (h1 : q_runC w c1 st = a :: st) (h2 : q_runC w c2 (a :: st) = b :: a :: st) (hk : k = 42 ∨ k = 47 ∨ k = 43 ∨ k = 45 ∨ k = 60 ∨ k = 62 ∨ k = 61 ∨ k = 14 ∨ k = 15) : q_runC w (c1 ++ (c2 ++ [-k])) st = cmb k a b :: st := by
  rw [runC_app, h1, runC_app, h2]
  show stpC w (-k) (b :: a :: st) = _
  unfold stpC
  rcases hk with rfl | rfl | rfl | rfl | rfl | rfl | rfl | rfl | rfl <;> rw [if_pos (by decide), if_pos (by decide), if_neg (by decide), if_neg (by decide)] <;> rfl
theorem q_Good.pair {x : q_Lx} {op : q_Op} {k : Int32} {q t : Nat} {r : q_Pr} (hop : ∀ EF, op = some EF → GoodF x EF.1 ∧ GoodF x EF.2) (hk : k = 14 ∨ k = 15) (h : pB2 x op k q t = .ok r) : t < r.2.1 ∧ r.2.1 ≤ 60 ∧ r.2.2.1.length + 2 + t ≤ r.2.1 ∧ r.2.2.2.1.length + t = r.2.1 ∧ lxk x r.1 ≠ -1 ∧ ∀ w st, q_runC w (r.2.2.1 ++ [-k]) st = r.2.2.2.2 w :: st := by
  unfold pB2 at h
  cases op with
  | none => cases h
  | some EF =>
    obtain ⟨q1, h1, h⟩ := thn_ok h
    obtain ⟨t60, rfl, c1⟩ := tkE_ok h1
    obtain ⟨r1, h2, h⟩ := thn_ok h
    obtain ⟨a1, a2, a3, a4, a5, a6⟩ := (hop EF rfl).1 _ _ _ h2
    split at h
    rotate_left
    · cases h
    obtain ⟨q3, h3, h⟩ := thn_ok h
    obtain ⟨t61, rfl, c3⟩ := tkE_ok h3
    obtain ⟨u, h4, h⟩ := thn_ok h
    obtain ⟨b1, b2, b3, b4, b5, b6⟩ := (hop EF rfl).1 _ _ _ h4
    split at h
    rotate_left
    · cases h
    obtain ⟨q5, h5, h⟩ := thn_ok h
    obtain ⟨t62, rfl, c5⟩ := tkE_ok h5
    cases h
    refine ⟨by show t < u.2.1 + 1; omega, by show u.2.1 + 1 ≤ 60; omega, ?_, ?_, c5, fun w st => ?_⟩
    · show (r1.2.2.1 ++ u.2.2.1).length + 2 + t ≤ u.2.1 + 1
      rw [List.length_append]; omega
    · show (tkq x q :: (r1.2.2.2.1 ++ tkq x r1.1 :: (u.2.2.2.1 ++ [tkq x u.1]))).length + t = u.2.1 + 1
      simp only [List.length_cons, List.length_append, List.length_nil]; omega
    · show q_runC w (r1.2.2.1 ++ u.2.2.1 ++ [-k]) st = cmb k _ _ :: st
      rw [List.append_assoc]
      exact run_bin (a6 w st) (b6 w _) (by rcases hk with h | h <;> simp [h])
theorem fac_good {x : q_Lx} {op : q_Op} (hx : lOK x) (hop : ∀ EF, op = some EF → GoodF x EF.1 ∧ GoodF x EF.2) : GoodF x (pFac x op) := by
  intro q t r h
  unfold pFac at h
  split at h
  · rename_i e
    obtain ⟨q1, h1, h⟩ := thn_ok h
    obtain ⟨t60, rfl, c1⟩ := tkE_ok h1
    cases h
    refine ⟨by show t < t + 1; omega, by show t + 1 ≤ 60; omega, by show 1 + t ≤ t + 1; omega, by show 1 + t = t + 1; omega, c1, fun w st => ?_⟩
    show stpC w (lxv x q) st = _
    unfold stpC; rw [if_neg (hx q e)]
  split at h
  · rename_i e0 e
    obtain ⟨q1, h1, h⟩ := thn_ok h
    obtain ⟨t60, rfl, c1⟩ := tkE_ok h1
    cases h
    refine ⟨by show t < t + 1; omega, by show t + 1 ≤ 60; omega, by show 1 + t ≤ t + 1; omega, by show 1 + t = t + 1; omega, c1, fun w st => ?_⟩
    have one : ∀ c : Int32, q_runC w [c] st = stpC w c st := fun _ => rfl
    refine (one (-1 - (lxk x q - 6))).trans ?_
    have key : ∀ k : Int32, ¬ k < 6 → k < 12 → ((-1 - (k - 6) : Int32) < 0 ∧ ¬ (-1 - (k - 6) : Int32) < -6 ∧ (-1 - (-1 - (k - 6)) : Int32) = k - 6) := by
      intro k h1 h2
      have z6 : (6 : Int32).toInt = 6 := rfl
      have z12 : (12 : Int32).toInt = 12 := rfl
      have z0 : (0 : Int32).toInt = 0 := rfl
      have zm6 : (-6 : Int32).toInt = -6 := by decide
      have zm1 : (-1 : Int32).toInt = -1 := by decide
      rw [Int32.lt_iff_toInt_lt, z6] at h1
      rw [Int32.lt_iff_toInt_lt, z12] at h2
      have e1 : (k - 6).toInt = k.toInt - 6 := by rw [Int32.toInt_sub, z6, Int.bmod_eq_of_le (by omega) (by omega)]
      have e2 : (-1 - (k - 6)).toInt = -1 - (k.toInt - 6) := by rw [Int32.toInt_sub, e1, zm1, Int.bmod_eq_of_le (by omega) (by omega)]
      refine ⟨by rw [Int32.lt_iff_toInt_lt, e2, z0]; omega, by rw [Int32.lt_iff_toInt_lt, e2, zm6]; omega, ?_⟩
      apply Int32.toInt_inj.mp
      rw [Int32.toInt_sub, e2, e1, zm1, Int.bmod_eq_of_le (by omega) (by omega)]; omega
    obtain ⟨k1, k2, k3⟩ := key _ e.1 e.2
    generalize -1 - (lxk x q - 6) = cc at k1 k2 k3 ⊢
    unfold stpC; rw [if_pos k1, if_neg k2, k3]
  split at h
  · rename_i e
    unfold pNg at h
    cases op with
    | none => cases h
    | some EF =>
      obtain ⟨q1, h1, h⟩ := thn_ok h
      obtain ⟨t60, rfl, c1⟩ := tkE_ok h1
      obtain ⟨r1, h2, h⟩ := thn_ok h
      obtain ⟨a1, a2, a3, a4, a5, a6⟩ := (hop EF rfl).2 _ _ _ h2
      cases h
      refine ⟨by show t < r1.2.1; omega, a2, ?_, ?_, a5, fun w st => ?_⟩
      · show (r1.2.2.1 ++ [-7]).length + t ≤ r1.2.1
        rw [List.length_append, List.length_singleton]; omega
      · show (tkq x q :: r1.2.2.2.1).length + t = r1.2.1
        rw [List.length_cons]; omega
      · show q_runC w (r1.2.2.1 ++ [-7]) st = _
        rw [runC_app, a6]
        show stpC w (-7) _ = _
        unfold stpC; rw [if_pos (by decide), if_pos (by decide), if_pos rfl]; rfl
  split at h
  · rename_i e
    unfold pB1 at h
    cases op with
    | none => cases h
    | some EF =>
      obtain ⟨q1, h1, h⟩ := thn_ok h
      obtain ⟨t60, rfl, c1⟩ := tkE_ok h1
      obtain ⟨r1, h2, h⟩ := thn_ok h
      obtain ⟨a1, a2, a3, a4, a5, a6⟩ := (hop EF rfl).1 _ _ _ h2
      split at h
      rotate_left
      · cases h
      obtain ⟨q3, h3, h⟩ := thn_ok h
      obtain ⟨t61, rfl, c3⟩ := tkE_ok h3
      cases h
      refine ⟨by show t < r1.2.1 + 1; omega, by show r1.2.1 + 1 ≤ 60; omega, by show r1.2.2.1.length + t ≤ r1.2.1 + 1; omega, ?_, c3, a6⟩
      show (tkq x q :: (r1.2.2.2.1 ++ [tkq x r1.1])).length + t = r1.2.1 + 1
      simp only [List.length_cons, List.length_append, List.length_nil]; omega
  split at h
  · rename_i e
    unfold pMM at h
    obtain ⟨q1, h1, h⟩ := thn_ok h
    obtain ⟨t60, rfl, c1⟩ := tkE_ok h1
    split at h
    rotate_left
    · cases h
    obtain ⟨r1, h2, h⟩ := thn_ok h
    obtain ⟨a1, a2, a3, a4, a5, a6⟩ := q_Good.pair hop e h2
    cases h
    refine ⟨by show t < r1.2.1; omega, a2, ?_, ?_, a5, a6⟩
    · show (r1.2.2.1 ++ [- lxk x q]).length + t ≤ r1.2.1
      rw [List.length_append, List.length_singleton]; omega
    · show (tkq x q :: r1.2.2.2.1).length + t = r1.2.1
      rw [List.length_cons]; omega
  · cases h
theorem lp_good {x : q_Lx} {s1 s2 : Int32} {F : Nat → Nat → q_Res} (hF : GoodF x F) (hs : (s1 = 42 ∧ s2 = 47) ∨ (s1 = 43 ∧ s2 = 45)) : ∀ (g t : Nat) (r u : q_Pr), q_Good x t r → pLp x s1 s2 F g r = .ok u → q_Good x t u ∧ r.2.1 ≤ u.2.1 := by
  intro g
  induction g with
  | zero => intro t r u _ h; cases h
  | succ g ih =>
    intro t r u hr h
    obtain ⟨a1, a2, a3, a4, a5, a6⟩ := hr
    unfold pLp at h
    split at h
    · rename_i e
      obtain ⟨q1, h1, h⟩ := thn_ok h
      obtain ⟨t60, rfl, c1⟩ := tkE_ok h1
      obtain ⟨y, h2, h⟩ := thn_ok h
      obtain ⟨b1, b2, b3, b4, b5, b6⟩ := hF _ _ _ h2
      obtain ⟨z1, z2⟩ := ih t _ u (by
        refine ⟨by show t < y.2.1; omega, b2, ?_, ?_, b5, fun w st => ?_⟩
        · show (r.2.2.1 ++ (y.2.2.1 ++ [- lxk x r.1])).length + t ≤ y.2.1
          simp only [List.length_append, List.length_singleton]; omega
        · show (r.2.2.2.1 ++ tkq x r.1 :: y.2.2.2.1).length + t = y.2.1
          simp only [List.length_append, List.length_cons]; omega
        · refine run_bin (a6 w st) (b6 w _) ?_
          rcases hs with ⟨rfl, rfl⟩ | ⟨rfl, rfl⟩ <;> rcases e with e | e <;> simp [e]) h
      have z2 : y.2.1 ≤ u.2.1 := z2
      exact ⟨z1, by omega⟩
    · cases h; exact ⟨⟨a1, a2, a3, a4, a5, a6⟩, Nat.le_refl _⟩
theorem prt_good {x : q_Lx} {op : q_Op} (hx : lOK x) (hop : ∀ EF, op = some EF → GoodF x EF.1 ∧ GoodF x EF.2) : GoodF x (pPrt x op) := by
  intro q t r h
  obtain ⟨r1, h1, h⟩ := thn_ok h
  exact (lp_good (fac_good hx hop) (Or.inl ⟨rfl, rfl⟩) _ _ _ _ (fac_good hx hop _ _ _ h1) h).1
theorem sum_good {x : q_Lx} {op : q_Op} (hx : lOK x) (hop : ∀ EF, op = some EF → GoodF x EF.1 ∧ GoodF x EF.2) : GoodF x (pSum x op) := by
  intro q t r h
  obtain ⟨r1, h1, h⟩ := thn_ok h
  exact (lp_good (prt_good hx hop) (Or.inr ⟨rfl, rfl⟩) _ _ _ _ (prt_good hx hop _ _ _ h1) h).1
theorem cnd_good {x : q_Lx} {op : q_Op} (hx : lOK x) (hop : ∀ EF, op = some EF → GoodF x EF.1 ∧ GoodF x EF.2) : GoodF x (pCnd x op) := by
  intro q t r h
  obtain ⟨r1, h1, h⟩ := thn_ok h
  obtain ⟨a1, a2, a3, a4, a5, a6⟩ := sum_good hx hop _ _ _ h1
  split at h
  · rename_i e
    obtain ⟨q1, h2, h⟩ := thn_ok h
    obtain ⟨t60, rfl, c1⟩ := tkE_ok h2
    obtain ⟨y, h3, h⟩ := thn_ok h
    obtain ⟨b1, b2, b3, b4, b5, b6⟩ := sum_good hx hop _ _ _ h3
    cases h
    refine ⟨by show t < y.2.1; omega, b2, ?_, ?_, b5, fun w st => ?_⟩
    · show (r1.2.2.1 ++ (y.2.2.1 ++ [- lxk x r1.1])).length + t ≤ y.2.1
      simp only [List.length_append, List.length_singleton]; omega
    · show (r1.2.2.2.1 ++ tkq x r1.1 :: y.2.2.2.1).length + t = y.2.1
      simp only [List.length_append, List.length_cons]; omega
    · refine run_bin (a6 w st) (b6 w _) ?_
      rcases e with e | e | e <;> simp [e]
  · cases h; exact ⟨a1, a2, a3, a4, a5, a6⟩
theorem exp_good {x : q_Lx} {op : q_Op} (hx : lOK x) (hop : ∀ EF, op = some EF → GoodF x EF.1 ∧ GoodF x EF.2) : GoodF x (pExp x op) := by
  intro q t r h
  obtain ⟨r1, h1, h⟩ := thn_ok h
  obtain ⟨a1, a2, a3, a4, a5, a6⟩ := cnd_good hx hop _ _ _ h1
  split at h
  · rename_i e
    unfold pQ at h
    cases op with
    | none => cases h
    | some EF =>
      obtain ⟨q1, h2, h⟩ := thn_ok h
      obtain ⟨t60, rfl, c1⟩ := tkE_ok h2
      obtain ⟨u, h3, h⟩ := thn_ok h
      obtain ⟨b1, b2, b3, b4, b5, b6⟩ := (hop EF rfl).1 _ _ _ h3
      split at h
      rotate_left
      · cases h
      obtain ⟨q3, h4, h⟩ := thn_ok h
      obtain ⟨t61, rfl, c3⟩ := tkE_ok h4
      obtain ⟨y, h5, h⟩ := thn_ok h
      obtain ⟨d1, d2, d3, d4, d5, d6⟩ := (hop EF rfl).1 _ _ _ h5
      cases h
      refine ⟨by show t < y.2.1; omega, d2, ?_, ?_, d5, fun w st => ?_⟩
      · show (r1.2.2.1 ++ (u.2.2.1 ++ (y.2.2.1 ++ [-8]))).length + t ≤ y.2.1
        simp only [List.length_append, List.length_singleton]; omega
      · show (r1.2.2.2.1 ++ tkq x r1.1 :: (u.2.2.2.1 ++ tkq x u.1 :: y.2.2.2.1)).length + t = y.2.1
        simp only [List.length_append, List.length_cons]; omega
      · show q_runC w (r1.2.2.1 ++ (u.2.2.1 ++ (y.2.2.1 ++ [-8]))) st = _
        rw [runC_app, a6, runC_app, b6, runC_app, d6]
        show stpC w (-8) _ = _
        unfold stpC; rw [if_pos (by decide), if_pos (by decide), if_neg (by decide), if_pos rfl]; rfl
  · cases h; exact ⟨a1, a2, a3, a4, a5, a6⟩
theorem lv_good {x : q_Lx} (hx : lOK x) : ∀ d, GoodF x (pLv x d).1 ∧ GoodF x (pLv x d).2
  | 0 => ⟨exp_good hx (fun _ h => by cases h), fac_good hx (fun _ h => by cases h)⟩
  | d + 1 => by
    have := lv_good hx d
    exact ⟨exp_good hx (fun EF h => by cases h; exact this), fac_good hx (fun EF h => by cases h; exact this)⟩

def PT' : List Nat := [258, 259, 260, 261, 262, 263, 264, 266, 2120]
def Tp (μ : Mem) (b : Nat) (tp : Nat → Int32) (L : Nat) : Prop := mI μ 257 (b + 1) = q_i3 L ∧ L ≤ 600 ∧ ∀ i, i < L → aI μ 115 (b + 2) i = tp i
def q_Env (μ : Mem) (b : Nat) (tp : Nat → Int32) (L : Nat) : Prop := K0 μ b ∧ WF μ ∧ Tp μ b tp L
theorem q_Env.md {S : List Nat} {μ ν : Mem} {b L : Nat} {tp : Nat → Int32} (h : q_Env μ b tp L) (m : Md S μ ν) (hS : disj [834, 257, 2115] S = true) : q_Env ν b tp L := by
  obtain ⟨h1, h2, h3, h4, h5⟩ := h
  exact ⟨m.k0 h1, (m.wf h2 (disj_nc hS (by decide))).1, by rw [m.1.i 257 (disj_nc hS (by decide))]; exact h3, h4, by rw [m.1.ai 115 (disj_nc hS (by decide))]; exact h5⟩
def cTok (μ : Mem) (b : Nat) (x : q_Lx) (q : Nat) : Prop := mI μ 260 (b + 1) = q_i3 (lxn x q) ∧ mI μ 261 (b + 1) = q_i3 (lxf x q) ∧ mI μ 262 (b + 1) = lxk x q ∧ (lxk x q = 16 → mI μ 263 (b + 1) = lxv x q) ∧ mI μ 258 (b + 1) = 0 ∧ mI μ 259 (b + 1) = 0
def xOK (x : q_Lx) (L : Nat) : Prop := lOK x ∧ ∀ q, q ≤ L → lxn x q ≤ L ∧ lxf x q ≤ L ∧ lxk x q ≠ 18
def CBr (μ : Mem) (b : Nat) (e : q_Er) : Prop := mI μ 262 (b + 1) = 18 ∧ mI μ 258 (b + 1) = e.1 ∧ mI μ 259 (b + 1) = q_i3 e.2
def CBx (μ : Mem) (b : Nat) (e : q_Er) : Prop := CBr μ b e ∧ ∃ n, n ≤ 60 ∧ mI μ 266 (b + 1) = q_i3 n
def q_CDc (μ : Mem) (b t : Nat) (cd : List Int32) : Prop := mI μ 264 (b + 1) = q_i3 t ∧ mI μ 266 (b + 1) = q_i3 cd.length ∧ (∀ i, i < cd.length → aI μ 120 (b + 3) i = cd.getD i 0) ∧ cd.length ≤ t ∧ t ≤ 60
def cSt (μ : Mem) (b : Nat) (x : q_Lx) (L q t : Nat) (cd : List Int32) : Prop := cTok μ b x q ∧ lxk x q ≠ -1 ∧ q ≤ L ∧ q_CDc μ b t cd
def AT' : List Nat := [258, 259, 260, 261, 262, 263]
def AdvOK (b : Nat) (tp : Nat → Int32) (L : Nat) (x : q_Lx) : Prop := ∀ μ q, q_Env μ b tp L → mI μ 262 (b + 1) ≠ 18 → mI μ 258 (b + 1) = 0 → mI μ 259 (b + 1) = 0 → q ≤ L → mI μ 260 (b + 1) = q_i3 q → q_wp (F_X4_advance (b + 1)) μ (fun _ ν => Md AT' μ ν ∧ (lxk x q = -1 → CBr ν b (1, lxf x q)) ∧ (lxk x q ≠ -1 → cTok ν b x q))
theorem c_ref0 {μ : Mem} {b : Nat} {k : Int32} : F_X4_refuseIf (b + 1) 0 k μ = some ((), μ) := by
  apply eq_wp; unfold F_X4_refuseIf; rw [wp_ite, if_pos rfl, wp_rt]; exact ⟨rfl, rfl⟩
theorem c_refB {μ : Mem} {b : Nat} {k y : Int32} (hK : K0 μ b) (h : mI μ 262 (b + 1) = 18) : F_X4_refuseIf (b + 1) y k μ = some ((), μ) := by
  apply eq_wp; unfold F_X4_refuseIf
  rw [wp_ite]
  by_cases e : y = 0
  · rw [if_pos e, wp_rt]; exact ⟨rfl, rfl⟩
  · rw [if_neg e, wp_bn, xgI4 hK, show mI μ (64 * 4 + 6) (b + 1) = 18 from h, wp_ite, if_pos rfl, wp_rt]; exact ⟨rfl, rfl⟩
theorem c_ref1 {μ : Mem} {b : Nat} {k : Int32} {p : Nat} (hK : K0 μ b) (h : mI μ 262 (b + 1) ≠ 18) (hp : mI μ 261 (b + 1) = q_i3 p) : q_wp (F_X4_refuseIf (b + 1) 1 k) μ (fun _ ν => Md [258, 259, 262] μ ν ∧ CBr ν b (k, p)) := by
  unfold F_X4_refuseIf
  have k1 : mK μ (b + 1) ≠ 0 := by rw [kk4 hK]; omega
  rw [wp_ite, if_neg (by decide), wp_bn, xgI4 hK, wp_ite, if_neg h]
  have e5 : mI μ 261 (b + 1) = q_i3 p := hp
  simp (maxSteps := 2000000) (disch := first | assumption | omega | (simp only [K0_sI, K0_sL, K0_tI, K0_tL, K0_nE]; assumption)) only [wp_bn, xgI11, xgL11, xwI11, xpR11, xgI4, xgL4, xwI4, xpR4, xgI7, xgL7, xwI7, xpR7, xgI12, xgL12, xwI12, xpR12, xgP11_0, xgP11_1, xgP11_2, xgP11_3, xgP11_4, xgP11_5, xgP11_6, xgP11_7, xgP4_0, xl115, xs115, xgP4_9, xl120, xs120, xgP7_0, xgP7_1, xl136, xs136, xgP7_2, xl144, xs144, xgP12_0, xl160, xs160, xgP12_4, xl168, xs168, xgP12_5, xl176, xs176, xgP12_6, xl184, xs184, xgP12_7, xl192, xs192, xgP12_8, xl200, xs200, xgP12_11, xl209, xs209, xgP12_12, xl218, xs218, xgP12_13, xl226, xs226, xgP12_14, xl232, xs232, xgP12_15, xl241, xs241, xgP12_16, xl248, xs248, xgP12_17, xl256, xs256, xgP12_18, xl264, xs264, xgP12_19, xl274, xs274, xgP12_20, xl280, xs280, xgP12_22, xl288, xs288, xgP12_25, xl296, xs296, xgP12_26, xl305, xs305, xgP12_27, xl312, xs312, xgP12_28, xl321, xs321, xgP12_29, xl328, xs328, xgP12_31, xl336, xs336, xgP12_33, xl344, xs344, xgP12_46, xl352, xs352, xgP12_47, xl360, xs360, xgP2_0, xpL2_0, xgP2_1, xpL2_1, xgP2_2, xpL2_2, xgI2, xwZ2, xpR2, xmo, xpL_5, xpL_33, xpL_34, xpL_35, xpL_36, xpL_37, Nat.reduceMul, Nat.reduceAdd, mI_sI', wp_rt]
  refine ⟨(((Md.sI (f := 258) k1).tr (Md.sI (f := 259) k1)).tr (Md.sI (f := 262) k1)).wk rfl, ?_, ?_, ?_⟩
  · rw [mI_sI', if_pos ⟨rfl, rfl⟩]
  · rw [mI_sI', if_neg (fun z => absurd z.1 (by omega)), mI_sI', if_neg (fun z => absurd z.1 (by omega)), mI_sI', if_pos ⟨rfl, rfl⟩]
  · rw [mI_sI', if_neg (fun z => absurd z.1 (by omega)), mI_sI', if_pos ⟨rfl, rfl⟩, if_neg (fun z => absurd z.1 (by omega)), e5]
theorem c_adB {μ : Mem} {b : Nat} (hK : K0 μ b) (h : mI μ 262 (b + 1) = 18) : F_X4_advance (b + 1) μ = some ((), μ) := by
  apply eq_wp; unfold F_X4_advance
  rw [wp_bn, xgI4 hK, show mI μ (64 * 4 + 6) (b + 1) = 18 from h, wp_ite, if_neg (fun z => z rfl), wp_rt]; exact ⟨rfl, rfl⟩
theorem CBx.md {S : List Nat} {μ ν : Mem} {b : Nat} {e : q_Er} (h : CBx μ b e) (m : Md S μ ν) (hS : disj [262, 258, 259, 266] S = true) : CBx ν b e := by
  obtain ⟨⟨h1, h2, h3⟩, n, hn, h4⟩ := h
  exact ⟨⟨by rw [m.1.i 262 (disj_nc hS (by decide))]; exact h1, by rw [m.1.i 258 (disj_nc hS (by decide))]; exact h2, by rw [m.1.i 259 (disj_nc hS (by decide))]; exact h3⟩, n, hn, by rw [m.1.i 266 (disj_nc hS (by decide))]; exact h4⟩
def Brk (b : Nat) (tp : Nat → Int32) (L : Nat) (P : M Unit) : Prop := ∀ ν e, q_Env ν b tp L → CBx ν b e → q_wp P ν (fun _ ρ => Md PT' ν ρ ∧ CBx ρ b e)
theorem Brk_rt {b L : Nat} {tp : Nat → Int32} : Brk b tp L (rt ()) := fun ν e _ h => by rw [wp_rt]; exact ⟨(Md.rf ν).wk rfl, h⟩
theorem Brk_bn {b L : Nat} {tp : Nat → Int32} {P K : M Unit} (h1 : Brk b tp L P) (h2 : Brk b tp L K) : Brk b tp L (bn P fun _ => K) := fun ν e hE h => by
  rw [wp_bn]
  refine q_wp_mono (h1 ν e hE h) ?_
  rintro _ ρ ⟨m1, c1⟩
  refine q_wp_mono (h2 ρ e (hE.md m1 rfl) c1) ?_
  rintro _ σ ⟨m2, c2⟩
  exact ⟨(m1.tr m2).wk rfl, c2⟩
theorem Brk_call {b L : Nat} {tp : Nat → Int32} {P : Nat → M Unit} {K : M Unit} (h1 : Brk b tp L (P (b + 1))) (h2 : Brk b tp L K) : Brk b tp L (bn (pRc 4 (some (b + 1))) fun b1 => bn (P b1) fun _ => K) := fun ν e hE h => by
  rw [wp_bn, xpR4 hE.1]; exact Brk_bn h1 h2 ν e hE h
theorem Brk_kind {b L : Nat} {tp : Nat → Int32} {K : Int32 → M Unit} (h : Brk b tp L (K 18)) : Brk b tp L (bn (gI 4 6 (some (b + 1))) K) := fun ν e hE hB => by
  rw [wp_bn, xgI4 hE.1, show mI ν (64 * 4 + 6) (b + 1) = 18 from hB.1.1]; exact h ν e hE hB
theorem Brk_num {b L : Nat} {tp : Nat → Int32} {K : Int32 → M Unit} (h : ∀ v, Brk b tp L (K v)) : Brk b tp L (bn (gI 4 7 (some (b + 1))) K) := fun ν e hE hB => by
  rw [wp_bn, xgI4 hE.1]; exact h _ ν e hE hB
theorem Brk_ref {b L : Nat} {tp : Nat → Int32} {y k : Int32} : Brk b tp L (F_X4_refuseIf (b + 1) y k) := fun ν e hE h => by
  rw [wp_eq (c_refB hE.1 h.1.1)]; exact ⟨(Md.rf ν).wk rfl, h⟩
theorem Brk_adv {b L : Nat} {tp : Nat → Int32} : Brk b tp L (F_X4_advance (b + 1)) := fun ν e hE h => by
  rw [wp_eq (c_adB hE.1 h.1.1)]; exact ⟨(Md.rf ν).wk rfl, h⟩
theorem Brk_take {b L : Nat} {tp : Nat → Int32} : Brk b tp L (F_X4_take (b + 1)) := fun ν e hE h => by
  have hK := hE.1
  have k1 : mK ν (b + 1) ≠ 0 := by rw [kk4 hK]; omega
  unfold F_X4_take F_X4_take_L15
  have L15 : ∀ y0 : Int32, q_wp (bn (pRc 4 (some (b + 1))) fun b2 => bn (F_X4_refuseIf b2 y0 (4 : Int32)) fun _ => bn (gI 4 8 (some (b + 1))) fun v3 => bn (wI 4 8 (some (b + 1)) (v3 + (1 : Int32))) fun _ => bn (pRc 4 (some (b + 1))) fun b4 => bn (F_X4_advance b4) fun _ => rt ()) ν (fun _ ρ => Md PT' ν ρ ∧ CBx ρ b e) := by
    intro y0
    rw [wp_bn, xpR4 hK, wp_bn, wp_eq (c_refB hK h.1.1), wp_bn, xgI4 hK, wp_bn, xwI4 hK]
    have m1 : Md [264] ν (sI ν (64 * 4 + 8) (b + 1) (mI ν (64 * 4 + 8) (b + 1) + 1)) := Md.sI k1
    have K1 := m1.k0 hK
    have h1 := h.md m1 rfl
    rw [wp_bn, xpR4 K1, wp_bn, wp_eq (c_adB K1 h1.1.1), wp_rt]
    exact ⟨m1.wk rfl, h1⟩
  rw [wp_bn, xgI4 hK, wp_ite]
  split
  · exact L15 0
  · exact L15 1
theorem c_emit {μ : Mem} {b : Nat} {cd : List Int32} {c : Int32} (hK : K0 μ b) (hT : TT μ) (h : mI μ 266 (b + 1) = q_i3 cd.length) (hcd : ∀ i, i < cd.length → aI μ 120 (b + 3) i = cd.getD i 0) (hl : cd.length < 60) : q_wp (F_X4_emit (b + 1) c) μ (fun _ ν => Md [266, 2120] μ ν ∧ mI ν 266 (b + 1) = q_i3 (cd ++ [c]).length ∧ ∀ i, i < (cd ++ [c]).length → aI ν 120 (b + 3) i = (cd ++ [c]).getD i 0) := by
  unfold F_X4_emit
  have k3 : mK μ (b + 3) = 120 := hK.k 3 120 (by decide)
  have e : mI μ (64 * 4 + 10) (b + 1) = q_i3 cd.length := h
  have nl : ¬ Int32.ofNat 60 ≤ q_i3 cd.length := fun z => by have := (i3_le (a := 60) (by omega) (by omega)).mp z; omega
  simp (maxSteps := 2000000) (disch := first | assumption | omega | (simp only [K0_sI, K0_sL, K0_tI, K0_tL, K0_nE]; assumption)) only [wp_bn, xgI11, xgL11, xwI11, xpR11, xgI4, xgL4, xwI4, xpR4, xgI7, xgL7, xwI7, xpR7, xgI12, xgL12, xwI12, xpR12, xgP11_0, xgP11_1, xgP11_2, xgP11_3, xgP11_4, xgP11_5, xgP11_6, xgP11_7, xgP4_0, xl115, xs115, xgP4_9, xl120, xs120, xgP7_0, xgP7_1, xl136, xs136, xgP7_2, xl144, xs144, xgP12_0, xl160, xs160, xgP12_4, xl168, xs168, xgP12_5, xl176, xs176, xgP12_6, xl184, xs184, xgP12_7, xl192, xs192, xgP12_8, xl200, xs200, xgP12_11, xl209, xs209, xgP12_12, xl218, xs218, xgP12_13, xl226, xs226, xgP12_14, xl232, xs232, xgP12_15, xl241, xs241, xgP12_16, xl248, xs248, xgP12_17, xl256, xs256, xgP12_18, xl264, xs264, xgP12_19, xl274, xs274, xgP12_20, xl280, xs280, xgP12_22, xl288, xs288, xgP12_25, xl296, xs296, xgP12_26, xl305, xs305, xgP12_27, xl312, xs312, xgP12_28, xl321, xs321, xgP12_29, xl328, xs328, xgP12_31, xl336, xs336, xgP12_33, xl344, xs344, xgP12_46, xl352, xs352, xgP12_47, xl360, xs360, xgP2_0, xpL2_0, xgP2_1, xpL2_1, xgP2_2, xpL2_2, xgI2, xwZ2, xpR2, xmo, xpL_5, xpL_33, xpL_34, xpL_35, xpL_36, xpL_37, e]
  rw [wp_len, if_neg (tt_ne hT (by rw [k3]; omega)), k3, hK.n 3 60 (by decide)]
  refine ⟨by omega, ?_⟩
  rw [wp_ite, if_neg nl]
  simp (maxSteps := 2000000) (disch := first | assumption | omega | (simp only [K0_sI, K0_sL, K0_tI, K0_tL, K0_nE]; assumption)) only [wp_bn, xgI11, xgL11, xwI11, xpR11, xgI4, xgL4, xwI4, xpR4, xgI7, xgL7, xwI7, xpR7, xgI12, xgL12, xwI12, xpR12, xgP11_0, xgP11_1, xgP11_2, xgP11_3, xgP11_4, xgP11_5, xgP11_6, xgP11_7, xgP4_0, xl115, xs115, xgP4_9, xl120, xs120, xgP7_0, xgP7_1, xl136, xs136, xgP7_2, xl144, xs144, xgP12_0, xl160, xs160, xgP12_4, xl168, xs168, xgP12_5, xl176, xs176, xgP12_6, xl184, xs184, xgP12_7, xl192, xs192, xgP12_8, xl200, xs200, xgP12_11, xl209, xs209, xgP12_12, xl218, xs218, xgP12_13, xl226, xs226, xgP12_14, xl232, xs232, xgP12_15, xl241, xs241, xgP12_16, xl248, xs248, xgP12_17, xl256, xs256, xgP12_18, xl264, xs264, xgP12_19, xl274, xs274, xgP12_20, xl280, xs280, xgP12_22, xl288, xs288, xgP12_25, xl296, xs296, xgP12_26, xl305, xs305, xgP12_27, xl312, xs312, xgP12_28, xl321, xs321, xgP12_29, xl328, xs328, xgP12_31, xl336, xs336, xgP12_33, xl344, xs344, xgP12_46, xl352, xs352, xgP12_47, xl360, xs360, xgP2_0, xpL2_0, xgP2_1, xpL2_1, xgP2_2, xpL2_2, xgI2, xwZ2, xpR2, xmo, xpL_5, xpL_33, xpL_34, xpL_35, xpL_36, xpL_37, e, i3m2, i3m4, i3m5, i3m6, i3m7, i3m12, i3m60, i3m72, i3m1600, i3r6, i3p1, i3p2, i3p3, i3p4, i3p5, i3p6, i3p7, i3p8, i3p9, i3p20, i3_add, i3_mul, i3_toNat, inA_i3, i3_lt, i3_le, i3_eq, wp_rt, hl, true_and, mI_tI]
  have md : Md [2120] μ (tI μ 120 (b + 3) cd.length c) := (Md.tI (k := 120) (by rw [k3]; omega)).wk rfl
  have md2 : Md [266] (tI μ 120 (b + 3) cd.length c) (sI (tI μ 120 (b + 3) cd.length c) 266 (b + 1) (q_i3 (cd.length + 1))) := Md.sI (by show mK μ (b + 1) ≠ 0; rw [kk4 hK]; omega)
  refine ⟨(md.tr md2).wk rfl, by rw [mI_sI', if_pos ⟨rfl, rfl⟩, List.length_append]; rfl, fun i hi => ?_⟩
  rw [List.length_append, List.length_singleton] at hi
  rw [aI_sI, aI_tI']
  by_cases ei : i = cd.length
  · rw [if_pos ⟨rfl, rfl, ei⟩, ei]; simp
  · rw [if_neg (fun z => ei z.2.2), hcd i (by omega)]
    simp only [List.getD_eq_getElem?_getD]
    rw [List.getElem?_append_left (by omega)]
theorem Brk_emit {b L : Nat} {tp : Nat → Int32} {c : Int32} : Brk b tp L (F_X4_emit (b + 1) c) := fun ν e hE h => by
  obtain ⟨hB, n, hn, h4⟩ := id h
  have hK := hE.1
  have k3 : mK ν (b + 3) = 120 := hK.k 3 120 (by decide)
  by_cases h60 : n = 60
  · unfold F_X4_emit
    rw [wp_bn, xgI4 hK, show mI ν (64 * 4 + 10) (b + 1) = q_i3 n from h4, wp_bn, xgP4_9 hK, wp_bn, wp_len, if_neg (tt_ne hE.2.1.2.1 (by rw [k3]; omega)), k3, hK.n 3 60 (by decide)]
    refine ⟨by omega, ?_⟩
    rw [wp_ite, if_pos (by rw [h60]; exact (i3_le (a := 60) (b := 60) (by omega) (by omega)).mpr (by omega)), wp_rt]
    exact ⟨(Md.rf ν).wk rfl, h⟩
  · refine q_wp_mono (c_emit (cd := (List.range n).map (aI ν 120 (b + 3))) hK hE.2.1.2.1 (by simpa using h4) (fun i hi => ?_) (by simp; omega)) ?_
    · have hi : i < n := by simpa using hi
      rw [List.getD_eq_getElem?_getD, List.getElem?_map, List.getElem?_range hi]; rfl
    · rintro _ ρ ⟨m, h5, _⟩
      refine ⟨m.wk rfl, ⟨by rw [m.1.i 262 rfl]; exact hB.1, by rw [m.1.i 258 rfl]; exact hB.2.1, by rw [m.1.i 259 rfl]; exact hB.2.2⟩, n + 1, by omega, ?_⟩
      rw [h5]; simp

theorem xk18 {x : q_Lx} {L q : Nat} (hx : xOK x L) (hq : q ≤ L) : lxk x q ≠ 18 := (hx.2 q hq).2.2
def TKS : List Nat := [258, 259, 260, 261, 262, 263, 264]
theorem c_tkn {μ : Mem} {b L q t : Nat} {tp : Nat → Int32} {x : q_Lx} (hA : AdvOK b tp L x) (hx : xOK x L) (hE : q_Env μ b tp L) (hT : cTok μ b x q) (hq : q ≤ L) (ht : mI μ 264 (b + 1) = q_i3 t) (h60 : t ≤ 60) : q_wp (F_X4_take (b + 1)) μ (fun _ ν => Md TKS μ ν ∧ (∀ q1, tkE x t q = .ok q1 → cTok ν b x q1 ∧ mI ν 264 (b + 1) = q_i3 (t + 1)) ∧ ∀ e, tkE x t q = .error e → CBr ν b e) := by
  obtain ⟨t1, t2, t3, t4, t5, t6⟩ := id hT
  have hK := hE.1
  have k1 : mK μ (b + 1) ≠ 0 := by rw [kk4 hK]; omega
  have hk18 : mI μ 262 (b + 1) ≠ 18 := by rw [t3]; exact xk18 hx hq
  unfold F_X4_take F_X4_take_L15 tkE
  rw [wp_bn, xgI4 hK, show mI μ (64 * 4 + 8) (b + 1) = q_i3 t from ht, wp_ite]
  have hlt : q_i3 t < 60 ↔ t < 60 := i3_lt (b := 60) (by omega) (by omega)
  by_cases h : t < 60
  · rw [if_pos (hlt.mpr h), if_neg (by omega), wp_bn, xpR4 hK, wp_bn, wp_eq c_ref0, wp_bn, xgI4 hK, show mI μ (64 * 4 + 8) (b + 1) = q_i3 t from ht, i3_1, wp_bn, xwI4 hK]
    have m1 : Md [264] μ (sI μ (64 * 4 + 8) (b + 1) (q_i3 (t + 1))) := Md.sI k1
    obtain ⟨μ1, e1⟩ : ∃ μ1, μ1 = sI μ (64 * 4 + 8) (b + 1) (q_i3 (t + 1)) := ⟨_, rfl⟩
    have h264 : mI μ1 264 (b + 1) = q_i3 (t + 1) := by rw [e1, mI_sI', if_pos ⟨rfl, rfl⟩]
    rw [← e1] at m1 ⊢
    have E1 := hE.md m1 rfl
    rw [wp_bn, xpR4 E1.1, wp_bn]
    refine q_wp_mono (hA μ1 (lxn x q) E1 (by rw [m1.1.i 262 rfl]; exact hk18) (by rw [m1.1.i 258 rfl]; exact t5) (by rw [m1.1.i 259 rfl]; exact t6) (hx.2 q hq).1 (by rw [m1.1.i 260 rfl]; exact t1)) ?_
    rintro _ ν ⟨m2, g1, g2⟩
    rw [wp_rt]
    refine ⟨(m1.tr m2).wk rfl, fun q1 hq1 => ?_, fun e he => ?_⟩
    · obtain ⟨rfl, hne⟩ := adE_ok hq1
      exact ⟨g2 hne, by rw [m2.1.i 264 rfl]; exact h264⟩
    · unfold adE at he
      by_cases hb : lxk x (lxn x q) = -1
      · rw [if_pos hb] at he; cases he; exact g1 hb
      · rw [if_neg hb] at he; cases he
  · rw [if_neg (fun z => h (hlt.mp z)), if_pos (by omega), wp_bn, xpR4 hK, wp_bn]
    refine q_wp_mono (c_ref1 hK hk18 t2) ?_
    rintro _ ν ⟨m1, B1⟩
    have K1 := m1.k0 hK
    rw [wp_bn, xgI4 K1, wp_bn, xwI4 K1]
    have m2 : Md [264] ν (sI ν (64 * 4 + 8) (b + 1) (mI ν (64 * 4 + 8) (b + 1) + 1)) := Md.sI (by rw [kk4 K1]; omega)
    have B2 : CBr (sI ν (64 * 4 + 8) (b + 1) (mI ν (64 * 4 + 8) (b + 1) + 1)) b (4, lxf x q) := ⟨by rw [m2.1.i 262 rfl]; exact B1.1, by rw [m2.1.i 258 rfl]; exact B1.2.1, by rw [m2.1.i 259 rfl]; exact B1.2.2⟩
    have K2 := m2.k0 K1
    rw [wp_bn, xpR4 K2, wp_bn, wp_eq (c_adB K2 B2.1), wp_rt]
    exact ⟨(m1.tr m2).wk rfl, fun q1 hq1 => (by cases hq1), fun e he => (by cases he; exact B2)⟩
def cPost (b : Nat) (x : q_Lx) (L : Nat) (r : q_Res) (cd : List Int32) (μ : Mem) (_z : Unit) (ν : Mem) : Prop := Md PT' μ ν ∧ (∀ u, r = .ok u → cSt ν b x L u.1 u.2.1 (cd ++ u.2.2.1)) ∧ ∀ e, r = .error e → CBx ν b e
theorem cP_bind {b L : Nat} {tp : Nat → Int32} {x : q_Lx} {μ : Mem} {P K : M Unit} {r : q_Res} {f : q_Pr → q_Res} {cd : List Int32} (hE : q_Env μ b tp L) (h : q_wp P μ (cPost b x L r cd μ)) (hK : Brk b tp L K) (hok : ∀ u ν, r = .ok u → q_Env ν b tp L → cSt ν b x L u.1 u.2.1 (cd ++ u.2.2.1) → q_wp K ν (cPost b x L (f u) cd ν)) : q_wp (bn P fun _ => K) μ (cPost b x L (thn r f) cd μ) := by
  rw [wp_bn]
  refine q_wp_mono h ?_
  rintro _ ν ⟨m1, g1, g2⟩
  have E1 := hE.md m1 rfl
  cases r with
  | error e =>
    refine q_wp_mono (hK ν e E1 (g2 e rfl)) ?_
    rintro _ ρ ⟨m2, c2⟩
    exact ⟨(m1.tr m2).wk rfl, fun u hu => (by cases hu), fun e' he => (by cases he; exact c2)⟩
  | ok u =>
    refine q_wp_mono (hok u ν rfl E1 (g1 u rfl)) ?_
    rintro _ ρ ⟨m2, c2⟩
    exact ⟨(m1.tr m2).wk rfl, c2⟩
theorem cT_bind {b L q t : Nat} {tp : Nat → Int32} {x : q_Lx} {μ : Mem} {K : M Unit} {f : Nat → q_Res} {cd cd0 : List Int32} (hA : AdvOK b tp L x) (hx : xOK x L) (hE : q_Env μ b tp L) (h : cSt μ b x L q t cd) (hK : Brk b tp L K) (hok : ∀ q1 ν, tkE x t q = .ok q1 → q_Env ν b tp L → cSt ν b x L q1 (t + 1) cd → q_wp K ν (cPost b x L (f q1) cd0 ν)) : q_wp (bn (F_X4_take (b + 1)) fun _ => K) μ (cPost b x L (thn (tkE x t q) f) cd0 μ) := by
  obtain ⟨hT, hne, hq, c1, c2, c3, c4, c5⟩ := h
  rw [wp_bn]
  refine q_wp_mono (c_tkn hA hx hE hT hq c1 c5) ?_
  rintro _ ν ⟨m1, g1, g2⟩
  have E1 := hE.md m1 rfl
  cases hr : tkE x t q with
  | error e =>
    refine q_wp_mono (hK ν e E1 ⟨g2 e hr, cd.length, by omega, by rw [m1.1.i 266 rfl]; exact c2⟩) ?_
    rintro _ ρ ⟨m2, c2⟩
    exact ⟨(m1.tr m2).wk rfl, fun u hu => (by cases hu), fun e' he => (by cases he; exact c2)⟩
  | ok q1 =>
    obtain ⟨k1, k2⟩ := g1 q1 hr
    obtain ⟨t60, rfl, hne1⟩ := tkE_ok hr
    refine q_wp_mono (hok _ ν hr E1 ⟨k1, hne1, (hx.2 q hq).1, k2, by rw [m1.1.i 266 rfl]; exact c2, by rw [m1.1.ai 120 rfl]; exact c3, by omega, by omega⟩) ?_
    rintro _ ρ ⟨m2, c2⟩
    exact ⟨(m1.tr m2).wk rfl, c2⟩
theorem cR_bind {b L q t : Nat} {tp : Nat → Int32} {x : q_Lx} {μ : Mem} {K : M Unit} {k : Int32} {cd cd0 : List Int32} (hx : xOK x L) (hE : q_Env μ b tp L) (h : cSt μ b x L q t cd) (hK : Brk b tp L K) : q_wp (bn (F_X4_refuseIf (b + 1) 1 k) fun _ => K) μ (cPost b x L (.error (k, lxf x q)) cd0 μ) := by
  obtain ⟨hT, hne, hq, c1, c2, c3, c4, c5⟩ := h
  obtain ⟨t1, t2, t3, t4, t5, t6⟩ := id hT
  rw [wp_bn]
  refine q_wp_mono (c_ref1 hE.1 (by rw [t3]; exact xk18 hx hq) t2) ?_
  rintro _ ν ⟨m1, B1⟩
  refine q_wp_mono (hK ν _ (hE.md m1 rfl) ⟨B1, cd.length, by omega, by rw [m1.1.i 266 rfl]; exact c2⟩) ?_
  rintro _ ρ ⟨m2, c2⟩
  exact ⟨(m1.tr m2).wk rfl, fun u hu => (by cases hu), fun e' he => (by cases he; exact c2)⟩
theorem cE_bind {b L q t : Nat} {tp : Nat → Int32} {x : q_Lx} {μ : Mem} {c : Int32} {cd cd0 : List Int32} {r : q_Res} {K : M Unit} (hE : q_Env μ b tp L) (h : cSt μ b x L q t cd) (hl : cd.length + 1 ≤ t) (hok : ∀ ν, q_Env ν b tp L → cSt ν b x L q t (cd ++ [c]) → q_wp K ν (cPost b x L r cd0 ν)) : q_wp (bn (F_X4_emit (b + 1) c) fun _ => K) μ (cPost b x L r cd0 μ) := by
  obtain ⟨hT, hne, hq, c1, c2, c3, c4, c5⟩ := h
  rw [wp_bn]
  refine q_wp_mono (c_emit (c := c) hE.1 hE.2.1.2.1 c2 c3 (by omega)) ?_
  rintro _ ν ⟨m1, g1, g2⟩
  obtain ⟨t1, t2, t3, t4, t5, t6⟩ := hT
  refine q_wp_mono (hok ν (hE.md m1 rfl) ⟨⟨by rw [m1.1.i 260 rfl]; exact t1, by rw [m1.1.i 261 rfl]; exact t2, by rw [m1.1.i 262 rfl]; exact t3, by rw [m1.1.i 263 rfl]; exact t4, by rw [m1.1.i 258 rfl]; exact t5, by rw [m1.1.i 259 rfl]; exact t6⟩, hne, hq, by rw [m1.1.i 264 rfl]; exact c1, g1, g2, by rw [List.length_append, List.length_singleton]; exact hl, c5⟩) ?_
  rintro _ ρ ⟨m2, c2⟩
  exact ⟨(m1.tr m2).wk rfl, c2⟩
theorem cP_ok {b L : Nat} {x : q_Lx} {μ : Mem} {u : q_Pr} {cd : List Int32} (h : cSt μ b x L u.1 u.2.1 (cd ++ u.2.2.1)) : cPost b x L (.ok u) cd μ () μ := ⟨(Md.rf μ).wk rfl, fun v hv => (by cases hv; exact h), fun e he => (by cases he)⟩
theorem c_emTk {b L q t : Nat} {tp : Nat → Int32} {x : q_Lx} {μ : Mem} {c : Int32} {cd : List Int32} {k : List q_Tok} {v : q_Val} (hA : AdvOK b tp L x) (hx : xOK x L) (hE : q_Env μ b tp L) (h : cSt μ b x L q t cd) : q_wp (bn (pRc 4 (some (b + 1))) fun b5 => bn (F_X4_emit b5 c) fun _ => bn (pRc 4 (some (b + 1))) fun b6 => bn (F_X4_take b6) fun _ => rt ()) μ (cPost b x L (thn (tkE x t q) fun q1 => .ok (q1, t + 1, [c], k, v)) cd μ) := by
  obtain ⟨hT, hne, hq, c1, c2, c3, c4, c5⟩ := h
  rw [wp_bn, xpR4 hE.1, wp_bn]
  have em : q_wp (F_X4_emit (b + 1) c) μ (fun _ ν => Md [266, 2120] μ ν ∧ (∃ n, n ≤ 60 ∧ mI ν 266 (b + 1) = q_i3 n) ∧ (t < 60 → mI ν 266 (b + 1) = q_i3 (cd ++ [c]).length ∧ ∀ i, i < (cd ++ [c]).length → aI ν 120 (b + 3) i = (cd ++ [c]).getD i 0)) := by
    by_cases hl : cd.length < 60
    · refine q_wp_mono (c_emit (c := c) hE.1 hE.2.1.2.1 c2 c3 hl) ?_
      rintro _ ν ⟨m1, g1, g2⟩
      exact ⟨m1, ⟨_, by rw [List.length_append, List.length_singleton]; omega, g1⟩, fun _ => ⟨g1, g2⟩⟩
    · have k3 : mK μ (b + 3) = 120 := hE.1.k 3 120 (by decide)
      have e60 : cd.length = 60 := by omega
      unfold F_X4_emit
      rw [wp_bn, xgI4 hE.1, show mI μ (64 * 4 + 10) (b + 1) = q_i3 cd.length from c2, wp_bn, xgP4_9 hE.1, wp_bn, wp_len, if_neg (tt_ne hE.2.1.2.1 (by rw [k3]; omega)), k3, hE.1.n 3 60 (by decide)]
      refine ⟨by omega, ?_⟩
      rw [wp_ite, if_pos (by rw [e60]; exact (i3_le (a := 60) (b := 60) (by omega) (by omega)).mpr (by omega)), wp_rt]
      exact ⟨(Md.rf μ).wk rfl, ⟨cd.length, by omega, c2⟩, fun z => by omega⟩
  refine q_wp_mono em ?_
  rintro _ ν ⟨m1, ⟨n, hn, g1⟩, g2⟩
  obtain ⟨t1, t2, t3, t4, t5, t6⟩ := hT
  have E1 := hE.md m1 rfl
  rw [wp_bn, xpR4 E1.1, wp_bn]
  refine q_wp_mono (c_tkn (t := t) hA hx E1 ⟨by rw [m1.1.i 260 rfl]; exact t1, by rw [m1.1.i 261 rfl]; exact t2, by rw [m1.1.i 262 rfl]; exact t3, by rw [m1.1.i 263 rfl]; exact t4, by rw [m1.1.i 258 rfl]; exact t5, by rw [m1.1.i 259 rfl]; exact t6⟩ hq (by rw [m1.1.i 264 rfl]; exact c1) c5) ?_
  rintro _ ρ ⟨m2, g3, g4⟩
  rw [wp_rt]
  cases hr : tkE x t q with
  | error e => exact ⟨(m1.tr m2).wk rfl, fun u hu => (by cases hu), fun e' he => (by cases he; exact ⟨g4 e hr, n, hn, by rw [m2.1.i 266 rfl]; exact g1⟩)⟩
  | ok q1 =>
    obtain ⟨k1, k2⟩ := g3 q1 hr
    obtain ⟨t60, rfl, hne1⟩ := tkE_ok hr
    obtain ⟨g5, g6⟩ := g2 t60
    refine ⟨(m1.tr m2).wk rfl, fun u hu => ?_, fun e he => (by cases he)⟩
    cases hu
    exact ⟨k1, hne1, (hx.2 q hq).1, k2, by rw [m2.1.i 266 rfl]; exact g5, by rw [m2.1.ai 120 rfl]; exact g6, by show (cd ++ [c]).length ≤ t + 1; rw [List.length_append, List.length_singleton]; omega, by show t + 1 ≤ 60; omega⟩

def opL (x : q_Lx) : Nat → q_Op
  | 0 => none
  | d + 1 => some (pLv x d)
theorem lv1 (x : q_Lx) (d : Nat) : (pLv x d).1 = pExp x (opL x d) := by cases d <;> rfl
theorem lv2 (x : q_Lx) (d : Nat) : (pLv x d).2 = pFac x (opL x d) := by cases d <;> rfl
theorem op_good {x : q_Lx} (hx : lOK x) (d : Nat) : ∀ EF, opL x d = some EF → GoodF x EF.1 ∧ GoodF x EF.2 := by
  intro EF h
  cases d with
  | zero => cases h
  | succ d => cases h; exact lv_good hx d
def CSpec (b : Nat) (tp : Nat → Int32) (L : Nat) (x : q_Lx) (G : Int32 → M Unit) (F : Nat → Nat → q_Res) (d : Nat) : Prop := ∀ μ q t cd, q_Env μ b tp L → cSt μ b x L q t cd → q_wp (G (q_i3 (12 - d))) μ (cPost b x L (F q t) cd μ)
theorem bF (b L : Nat) (tp : Nat → Int32) (n : Nat) (o : Int32) : Brk b tp L ((R_X4_readExpr (n + 1)).2.2.2.2.1 (b + 1) o) := by
  show Brk b tp L (F_X4_readFactor_B _ _ _ _ _ _ (b + 1) o)
  unfold F_X4_readFactor_B F_X4_readFactor_L62
  refine Brk_kind ?_
  rw [if_pos (by decide)]
  refine Brk_kind ?_
  rw [if_neg (by decide)]
  refine Brk_kind ?_
  rw [if_pos (by decide)]
  refine Brk_kind ?_
  rw [if_pos (by decide)]
  refine Brk_kind ?_
  rw [if_pos (by decide)]
  refine Brk_kind ?_
  rw [if_neg (by decide)]
  refine Brk_kind ?_
  rw [if_pos (by decide)]
  exact Brk_call (P := fun b14 => F_X4_refuseIf b14 1 2) Brk_ref Brk_rt
theorem bPL (b L : Nat) (tp : Nat → Int32) {rE rC rS rP rF : Nat → Int32 → M Unit} {q_rB : Nat → Int32 → Int32 → M Unit} (g : Nat) (o y : Int32) : Brk b tp L (F_X4_readPart_L7 rE rC rS rP rF q_rB (g + 1) (b + 1) o y) := by
  show Brk b tp L (if (60 : Int32) ≤ y then rt () else _)
  split
  · exact Brk_rt
  · refine Brk_kind ?_
    rw [if_neg (by decide)]
    refine Brk_kind ?_
    rw [if_pos (by decide)]
    exact Brk_rt
theorem bSL (b L : Nat) (tp : Nat → Int32) {rE rC rS rP rF : Nat → Int32 → M Unit} {q_rB : Nat → Int32 → Int32 → M Unit} (g : Nat) (o y : Int32) : Brk b tp L (F_X4_readSum_L7 rE rC rS rP rF q_rB (g + 1) (b + 1) o y) := by
  show Brk b tp L (if (60 : Int32) ≤ y then rt () else _)
  split
  · exact Brk_rt
  · refine Brk_kind ?_
    rw [if_neg (by decide)]
    refine Brk_kind ?_
    rw [if_pos (by decide)]
    exact Brk_rt
theorem bP (b L : Nat) (tp : Nat → Int32) (n : Nat) (o : Int32) : Brk b tp L ((R_X4_readExpr (n + 2)).2.2.2.1 (b + 1) o) :=
  Brk_call (P := fun b1 => (R_X4_readExpr (n + 1)).2.2.2.2.1 b1 o) (bF b L tp n o) (bPL b L tp 99999 o 0)
theorem bS (b L : Nat) (tp : Nat → Int32) (n : Nat) (o : Int32) : Brk b tp L ((R_X4_readExpr (n + 3)).2.2.1 (b + 1) o) :=
  Brk_call (P := fun b1 => (R_X4_readExpr (n + 2)).2.2.2.1 b1 o) (bP b L tp n o) (bSL b L tp 99999 o 0)
theorem bC (b L : Nat) (tp : Nat → Int32) (n : Nat) (o : Int32) : Brk b tp L ((R_X4_readExpr (n + 4)).2.1 (b + 1) o) := by
  refine Brk_call (P := fun b1 => (R_X4_readExpr (n + 3)).2.2.1 b1 o) (bS b L tp n o) ?_
  refine Brk_kind ?_
  rw [if_neg (by decide)]
  refine Brk_kind ?_
  rw [if_neg (by decide)]
  refine Brk_kind ?_
  rw [if_pos (by decide)]
  exact Brk_rt
theorem bE (b L : Nat) (tp : Nat → Int32) (n : Nat) (o : Int32) : Brk b tp L ((R_X4_readExpr (n + 5)).1 (b + 1) o) := by
  refine Brk_call (P := fun b1 => (R_X4_readExpr (n + 4)).2.1 b1 o) (bC b L tp n o) ?_
  refine Brk_kind ?_
  rw [if_pos (by decide)]
  exact Brk_rt
theorem bB61 (b L : Nat) (tp : Nat → Int32) {rE rC rS rP rF : Nat → Int32 → M Unit} {q_rB : Nat → Int32 → Int32 → M Unit} : Brk b tp L (F_X4_readBracket_L61 rE rC rS rP rF q_rB (b + 1)) := by
  unfold F_X4_readBracket_L61
  refine Brk_kind ?_
  rw [if_neg (by decide)]
  unfold F_X4_readBracket_L76
  exact Brk_call (P := fun b9 => F_X4_refuseIf b9 1 2) Brk_ref (Brk_call (P := fun b10 => F_X4_take b10) Brk_take Brk_rt)
theorem bB46 (b L : Nat) (tp : Nat → Int32) (n : Nat) (o y : Int32) {rC rS rP rF : Nat → Int32 → M Unit} {q_rB : Nat → Int32 → Int32 → M Unit} : Brk b tp L (F_X4_readBracket_L46 (R_X4_readExpr (n + 5)).1 rC rS rP rF q_rB (b + 1) o y (some (b + 1))) := by
  unfold F_X4_readBracket_L46
  exact Brk_call (P := fun b6 => F_X4_refuseIf b6 y 2) Brk_ref (Brk_call (P := fun b7 => F_X4_take b7) Brk_take (Brk_call (P := fun b8 => (R_X4_readExpr (n + 5)).1 b8 (o + 1)) (bE b L tp n _) (bB61 b L tp)))
theorem bBt (b L : Nat) (tp : Nat → Int32) (n : Nat) (o p : Int32) {rC rS rP rF : Nat → Int32 → M Unit} {q_rB : Nat → Int32 → Int32 → M Unit} : Brk b tp L (if p = 0 then F_X4_readBracket_L61 (R_X4_readExpr (n + 5)).1 rC rS rP rF q_rB (b + 1) else bn (gI 4 6 (some (b + 1))) fun v4 => if v4 = (44 : Int32) then F_X4_readBracket_L46 (R_X4_readExpr (n + 5)).1 rC rS rP rF q_rB (b + 1) o (0 : Int32) (some (b + 1)) else F_X4_readBracket_L46 (R_X4_readExpr (n + 5)).1 rC rS rP rF q_rB (b + 1) o (1 : Int32) (some (b + 1))) := by
  split
  · exact bB61 b L tp
  · refine Brk_kind ?_
    rw [if_neg (by decide)]
    exact bB46 b L tp n o 1
theorem bBx (b L : Nat) (tp : Nat → Int32) (n : Nat) (o p : Int32) {rC rS rP rF : Nat → Int32 → M Unit} {q_rB : Nat → Int32 → Int32 → M Unit} : Brk b tp L (bn (pRc 4 (some (b + 1))) fun b2 => bn (F_X4_take b2) fun _ => bn (pRc 4 (some (b + 1))) fun b3 => bn ((R_X4_readExpr (n + 5)).1 b3 (o + (1 : Int32))) fun _ => if p = 0 then F_X4_readBracket_L61 (R_X4_readExpr (n + 5)).1 rC rS rP rF q_rB (b + 1) else bn (gI 4 6 (some (b + 1))) fun v4 => if v4 = (44 : Int32) then F_X4_readBracket_L46 (R_X4_readExpr (n + 5)).1 rC rS rP rF q_rB (b + 1) o (0 : Int32) (some (b + 1)) else F_X4_readBracket_L46 (R_X4_readExpr (n + 5)).1 rC rS rP rF q_rB (b + 1) o (1 : Int32) (some (b + 1))) :=
  Brk_call (P := fun b2 => F_X4_take b2) Brk_take (Brk_call (P := fun b3 => (R_X4_readExpr (n + 5)).1 b3 (o + 1)) (bE b L tp n _) (bBt b L tp n o p))
theorem q_bB (b L : Nat) (tp : Nat → Int32) (n : Nat) (o p : Int32) : Brk b tp L ((R_X4_readExpr (n + 6)).2.2.2.2.2 (b + 1) o p) := by
  show Brk b tp L (F_X4_readBracket_B _ _ _ _ _ _ (b + 1) o p)
  unfold F_X4_readBracket_B F_X4_readBracket_L12
  split
  · exact Brk_call (P := fun b1 => F_X4_refuseIf b1 0 3) Brk_ref (bBx b L tp n o p)
  · exact Brk_call (P := fun b1 => F_X4_refuseIf b1 1 3) Brk_ref (bBx b L tp n o p)
theorem c_br {b L n d : Nat} {tp : Nat → Int32} {x : q_Lx} (hA : AdvOK b tp L x) (hx : xOK x L) (hd : d ≤ 12) (hn : 5 ≤ n) (hE' : ∀ d', d = d' + 1 → CSpec b tp L x (fun o => (R_X4_readExpr n).1 (b + 1) o) (pLv x d').1 d') (μ : Mem) (q t : Nat) (cd : List Int32) (hE : q_Env μ b tp L) (hS : cSt μ b x L q t cd) (k : Int32) :
    q_wp ((R_X4_readExpr (n + 1)).2.2.2.2.2 (b + 1) (q_i3 (12 - d)) 0) μ (cPost b x L (pB1 x (opL x d) q t) cd μ) ∧ q_wp ((R_X4_readExpr (n + 1)).2.2.2.2.2 (b + 1) (q_i3 (12 - d)) 1) μ (cPost b x L (pB2 x (opL x d) k q t) cd μ) := by
  obtain ⟨m, rfl⟩ : ∃ m, n = m + 5 := ⟨n - 5, by omega⟩
  have hlt : q_i3 (12 - d) < 12 ↔ 12 - d < 12 := i3_lt (b := 12) (by omega) (by omega)
  have sh : ∀ p, (R_X4_readExpr (m + 5 + 1)).2.2.2.2.2 (b + 1) (q_i3 (12 - d)) p = F_X4_readBracket_B (R_X4_readExpr (m + 5)).1 (R_X4_readExpr (m + 5)).2.1 (R_X4_readExpr (m + 5)).2.2.1 (R_X4_readExpr (m + 5)).2.2.2.1 (R_X4_readExpr (m + 5)).2.2.2.2.1 (R_X4_readExpr (m + 5)).2.2.2.2.2 (b + 1) (q_i3 (12 - d)) p := fun _ => rfl
  rw [sh, sh]
  unfold F_X4_readBracket_B F_X4_readBracket_L12
  cases d with
  | zero =>
    have e12 : ¬ q_i3 (12 - 0) < 12 := fun z => by have := hlt.mp z; omega
    constructor
    · rw [if_neg e12, wp_bn, xpR4 hE.1]; exact cR_bind hx hE hS (bBx b L tp m _ 0)
    · rw [if_neg e12, wp_bn, xpR4 hE.1]; exact cR_bind hx hE hS (bBx b L tp m _ 1)
  | succ d =>
    have e12 : q_i3 (12 - (d + 1)) < 12 := hlt.mpr (by omega)
    have eo : q_i3 (12 - (d + 1)) + 1 = q_i3 (12 - d) := by rw [i3_1]; congr 1; omega
    have gE := (lv_good hx.1 d).1
    have cl : cd.length ≤ t := hS.2.2.2.2.2.2.1
    have L61 : ∀ (ν : Mem) (u : q_Pr) (cd' : List Int32) (g : Nat → q_Res), q_Env ν b tp L → cSt ν b x L u.1 u.2.1 cd' → (∀ q3, tkE x u.2.1 u.1 = .ok q3 → ∃ k v, g q3 = .ok (q3, u.2.1 + 1, cd'.drop cd.length, k, v)) → cd' = cd ++ cd'.drop cd.length → q_wp (F_X4_readBracket_L61 (R_X4_readExpr (m + 5)).1 (R_X4_readExpr (m + 5)).2.1 (R_X4_readExpr (m + 5)).2.2.1 (R_X4_readExpr (m + 5)).2.2.2.1 (R_X4_readExpr (m + 5)).2.2.2.2.1 (R_X4_readExpr (m + 5)).2.2.2.2.2 (b + 1)) ν (cPost b x L (if lxk x u.1 = 41 then thn (tkE x u.2.1 u.1) g else .error (2, lxf x u.1)) cd ν) := by
      intro ν (u : q_Pr) cd' g hE2 h2 hg hcd
      unfold F_X4_readBracket_L61 F_X4_readBracket_L76
      rw [wp_bn, xgI4 hE2.1, show mI ν (64 * 4 + 6) (b + 1) = lxk x u.1 from h2.1.2.2.1, wp_ite]
      by_cases e : lxk x u.1 = 41
      · rw [if_pos e, if_pos e, wp_bn, xpR4 hE2.1, wp_bn, wp_eq c_ref0, wp_bn, xpR4 hE2.1]
        refine cT_bind hA hx hE2 h2 Brk_rt ?_
        intro q3 ρ hq3 hE3 h3
        obtain ⟨k, v, hgq⟩ := hg q3 hq3
        rw [wp_rt, hgq]
        refine cP_ok ?_
        show cSt ρ b x L q3 (u.2.1 + 1) (cd ++ cd'.drop cd.length)
        rw [← hcd]; exact h3
      · rw [if_neg e, if_neg e, wp_bn, xpR4 hE2.1]
        exact cR_bind hx hE2 h2 (Brk_call (P := fun b10 => F_X4_take b10) Brk_take Brk_rt)
    constructor
    · rw [if_pos e12, wp_bn, xpR4 hE.1, wp_bn, wp_eq c_ref0, wp_bn, xpR4 hE.1]
      show q_wp _ μ (cPost b x L (thn (tkE x t q) fun q1 => thn ((pLv x d).1 q1 (t + 1)) fun r => if lxk x r.1 = 41 then thn (tkE x r.2.1 r.1) fun q3 => .ok (q3, r.2.1 + 1, r.2.2.1, tkq x q :: (r.2.2.2.1 ++ [tkq x r.1]), r.2.2.2.2) else .error (2, lxf x r.1)) cd μ)
      refine cT_bind hA hx hE hS (Brk_call (P := fun b3 => (R_X4_readExpr (m + 5)).1 b3 (q_i3 (12 - (d + 1)) + 1)) (bE b L tp m _) (bBt b L tp m _ 0)) ?_
      intro q1 ν hq1 hE1 h1
      rw [wp_bn, xpR4 hE1.1, eo]
      refine cP_bind hE1 (hE' d rfl ν q1 (t + 1) cd hE1 h1) (bBt b L tp m _ 0) ?_
      intro r ρ hr hE2 h2
      rw [if_pos rfl]
      exact L61 ρ r _ _ hE2 h2 (fun q3 _ => ⟨_, _, by rw [List.drop_left]⟩) (by rw [List.drop_left])
    · rw [if_pos e12, wp_bn, xpR4 hE.1, wp_bn, wp_eq c_ref0, wp_bn, xpR4 hE.1]
      show q_wp _ μ (cPost b x L (thn (tkE x t q) fun q1 => thn ((pLv x d).1 q1 (t + 1)) fun r => if lxk x r.1 = 44 then thn (tkE x r.2.1 r.1) fun q3 => thn ((pLv x d).1 q3 (r.2.1 + 1)) fun u => if lxk x u.1 = 41 then thn (tkE x u.2.1 u.1) fun q5 => .ok (q5, u.2.1 + 1, r.2.2.1 ++ u.2.2.1, tkq x q :: (r.2.2.2.1 ++ tkq x r.1 :: (u.2.2.2.1 ++ [tkq x u.1])), fun w => cmb k (r.2.2.2.2 w) (u.2.2.2.2 w)) else .error (2, lxf x u.1) else .error (2, lxf x r.1)) cd μ)
      refine cT_bind hA hx hE hS (Brk_call (P := fun b3 => (R_X4_readExpr (m + 5)).1 b3 (q_i3 (12 - (d + 1)) + 1)) (bE b L tp m _) (bBt b L tp m _ 1)) ?_
      intro q1 ν hq1 hE1 h1
      rw [wp_bn, xpR4 hE1.1]
      rw [eo]
      refine cP_bind hE1 (hE' d rfl ν q1 (t + 1) cd hE1 h1) (bBt b L tp m _ 1) ?_
      intro r ρ hr hE2 h2
      rw [if_neg (by decide), wp_bn, xgI4 hE2.1, show mI ρ (64 * 4 + 6) (b + 1) = lxk x r.1 from h2.1.2.2.1, wp_ite]
      unfold F_X4_readBracket_L46
      by_cases e : lxk x r.1 = 44
      · rw [if_pos e, if_pos e, wp_bn, xpR4 hE2.1, wp_bn, wp_eq c_ref0, wp_bn, xpR4 hE2.1]
        refine cT_bind hA hx hE2 h2 (Brk_call (P := fun b8 => (R_X4_readExpr (m + 5)).1 b8 (q_i3 (12 - (d + 1)) + 1)) (bE b L tp m _) (bB61 b L tp)) ?_
        intro q3 σ hq3 hE3 h3
        rw [wp_bn, xpR4 hE3.1, eo]
        have h4 := hE' d rfl σ q3 (r.2.1 + 1) (cd ++ r.2.2.1) hE3 h3
        rw [wp_bn]
        refine q_wp_mono h4 ?_
        rintro _ τ ⟨m4, g4, g5⟩
        have hE4 := hE3.md m4 rfl
        cases hu : (pLv x d).1 q3 (r.2.1 + 1) with
        | error er =>
          refine q_wp_mono (bB61 b L tp τ er hE4 (g5 er hu)) ?_
          rintro _ υ ⟨m5, c5⟩
          exact ⟨(m4.tr m5).wk rfl, fun u hu => (by cases hu), fun e' he => (by cases he; exact c5)⟩
        | ok u =>
          have h5 := g4 u hu
          refine q_wp_mono (L61 τ u _ (fun q5 => .ok (q5, u.2.1 + 1, r.2.2.1 ++ u.2.2.1, tkq x q :: (r.2.2.2.1 ++ tkq x r.1 :: (u.2.2.2.1 ++ [tkq x u.1])), fun w => cmb k (r.2.2.2.2 w) (u.2.2.2.2 w))) hE4 h5 (fun q5 _ => ⟨_, _, by rw [List.append_assoc, List.drop_left]⟩) (by rw [List.append_assoc, List.drop_left])) ?_
          rintro _ υ ⟨m5, c5⟩
          exact ⟨(m4.tr m5).wk rfl, c5⟩
      · rw [if_neg e, if_neg e, wp_bn, xpR4 hE2.1]
        exact cR_bind hx hE2 h2 (Brk_call (P := fun b7 => F_X4_take b7) Brk_take (Brk_call (P := fun b8 => (R_X4_readExpr (m + 5)).1 b8 (q_i3 (12 - (d + 1)) + 1)) (bE b L tp m _) (bB61 b L tp)))

theorem c_fac {b L n d : Nat} {tp : Nat → Int32} {x : q_Lx} (hA : AdvOK b tp L x) (hx : xOK x L) (hd : d ≤ 12) (hn : 6 ≤ n) (hF' : ∀ d', d = d' + 1 → CSpec b tp L x (fun o => (R_X4_readExpr n).2.2.2.2.1 (b + 1) o) (pLv x d').2 d')
    (hB : ∀ μ q t cd, q_Env μ b tp L → cSt μ b x L q t cd → ∀ k : Int32, q_wp ((R_X4_readExpr n).2.2.2.2.2 (b + 1) (q_i3 (12 - d)) 0) μ (cPost b x L (pB1 x (opL x d) q t) cd μ) ∧ q_wp ((R_X4_readExpr n).2.2.2.2.2 (b + 1) (q_i3 (12 - d)) 1) μ (cPost b x L (pB2 x (opL x d) k q t) cd μ)) :
    CSpec b tp L x (fun o => (R_X4_readExpr (n + 1)).2.2.2.2.1 (b + 1) o) (pFac x (opL x d)) d := by
  intro μ q t cd hE hS
  have hlt : q_i3 (12 - d) < 12 ↔ 12 - d < 12 := i3_lt (b := 12) (by omega) (by omega)
  show q_wp (F_X4_readFactor_B (R_X4_readExpr n).1 (R_X4_readExpr n).2.1 (R_X4_readExpr n).2.2.1 (R_X4_readExpr n).2.2.2.1 (R_X4_readExpr n).2.2.2.2.1 (R_X4_readExpr n).2.2.2.2.2 (b + 1) (q_i3 (12 - d))) μ _
  have hk : mI μ (64 * 4 + 6) (b + 1) = lxk x q := hS.1.2.2.1
  have cl : cd.length ≤ t := hS.2.2.2.2.2.2.1
  unfold F_X4_readFactor_B
  rw [wp_bn, xgI4 hE.1, hk, wp_ite]
  unfold pFac
  by_cases e16 : lxk x q = 16
  · rw [if_neg (fun z => z e16), if_pos e16, wp_bn, xgI4 hE.1, show mI μ (64 * 4 + 7) (b + 1) = lxv x q from hS.1.2.2.2.1 e16]
    exact c_emTk hA hx hE hS
  rw [if_pos e16, if_neg e16, wp_bn, xgI4 hE.1, hk, wp_ite]
  have L62 : ¬ (¬ lxk x q < 6 ∧ lxk x q < 12) → q_wp (F_X4_readFactor_L62 (R_X4_readExpr n).1 (R_X4_readExpr n).2.1 (R_X4_readExpr n).2.2.1 (R_X4_readExpr n).2.2.2.1 (R_X4_readExpr n).2.2.2.2.1 (R_X4_readExpr n).2.2.2.2.2 (b + 1) (q_i3 (12 - d))) μ (cPost b x L (if ¬ lxk x q < 6 ∧ lxk x q < 12 then thn (tkE x t q) fun q1 => .ok (q1, t + 1, [-1 - (lxk x q - 6)], [tkq x q], fun w => w (lxk x q - 6).toNatClampNeg) else if lxk x q = 45 then pNg x (opL x d) q t else if lxk x q = 40 then pB1 x (opL x d) q t else if lxk x q = 14 ∨ lxk x q = 15 then pMM x (opL x d) q t else .error (2, lxf x q)) cd μ) := by
    intro hw
    rw [if_neg hw]
    unfold F_X4_readFactor_L62
    rw [wp_bn, xgI4 hE.1, hk, wp_ite]
    by_cases e45 : lxk x q = 45
    · rw [if_neg (fun z => z e45), if_pos e45, wp_ite]
      unfold F_X4_readFactor_L83
      have brk : ∀ o, Brk b tp L (bn (pRc 4 (some (b + 1))) fun b20 => bn (F_X4_take b20) fun _ => bn (pRc 4 (some (b + 1))) fun b21 => bn ((R_X4_readExpr n).2.2.2.2.1 b21 o) fun _ => bn (pRc 4 (some (b + 1))) fun b22 => bn (F_X4_emit b22 (-7 : Int32)) fun _ => rt ()) := by
        intro o
        obtain ⟨m, rfl⟩ : ∃ m, n = m + 1 := ⟨n - 1, by omega⟩
        exact Brk_call (P := fun b20 => F_X4_take b20) Brk_take (Brk_call (P := fun b21 => (R_X4_readExpr (m + 1)).2.2.2.2.1 b21 o) (bF b L tp m o) (Brk_call (P := fun b22 => F_X4_emit b22 (-7)) Brk_emit Brk_rt))
      cases d with
      | zero =>
        rw [if_neg (fun z => by have := hlt.mp z; omega), wp_bn, xpR4 hE.1]
        exact cR_bind hx hE hS (brk _)
      | succ d =>
        have eo : q_i3 (12 - (d + 1)) + 1 = q_i3 (12 - d) := by rw [i3_1]; congr 1; omega
        rw [if_pos (hlt.mpr (by omega)), wp_bn, xpR4 hE.1, wp_bn, wp_eq c_ref0, wp_bn, xpR4 hE.1]
        show q_wp _ μ (cPost b x L (thn (tkE x t q) fun q1 => thn ((pLv x d).2 q1 (t + 1)) fun r => .ok (r.1, r.2.1, r.2.2.1 ++ [-7], tkq x q :: r.2.2.2.1, fun w => - r.2.2.2.2 w)) cd μ)
        obtain ⟨m, rfl⟩ : ∃ m, n = m + 1 := ⟨n - 1, by omega⟩
        have be : Brk b tp L (bn (pRc 4 (some (b + 1))) fun b22 => bn (F_X4_emit b22 (-7 : Int32)) fun _ => rt ()) := Brk_call (P := fun b22 => F_X4_emit b22 (-7)) Brk_emit Brk_rt
        refine cT_bind hA hx hE hS (Brk_call (P := fun b21 => (R_X4_readExpr (m + 1)).2.2.2.2.1 b21 _) (bF b L tp m _) be) ?_
        intro q1 ν hq1 hE1 h1
        rw [wp_bn, xpR4 hE1.1, eo]
        refine cP_bind hE1 (hF' d rfl ν q1 (t + 1) cd hE1 h1) be ?_
        intro r ρ hr hE2 h2
        obtain ⟨a1, a2, a3, a4, a5, a6⟩ := (lv_good hx.1 d).2 _ _ _ hr
        rw [wp_bn, xpR4 hE2.1]
        refine cE_bind hE2 h2 (by rw [List.length_append]; omega) ?_
        intro σ hE3 h3
        rw [wp_rt]
        refine cP_ok ?_
        show cSt σ b x L r.1 r.2.1 (cd ++ (r.2.2.1 ++ [-7]))
        rw [← List.append_assoc]; exact h3
    rw [if_pos e45, if_neg e45, wp_bn, xgI4 hE.1, hk, wp_ite]
    by_cases e40 : lxk x q = 40
    · rw [if_neg (fun z => z e40), if_pos e40, wp_bn, xpR4 hE.1, wp_bn]
      refine q_wp_mono (hB μ q t cd hE hS 0).1 ?_
      intro _ ν h
      rw [wp_rt]; exact h
    rw [if_pos e40, if_neg e40, wp_bn, xgI4 hE.1, hk, wp_ite]
    have L143 : (lxk x q = 14 ∨ lxk x q = 15) → q_wp (F_X4_readFactor_L143 (R_X4_readExpr n).1 (R_X4_readExpr n).2.1 (R_X4_readExpr n).2.2.1 (R_X4_readExpr n).2.2.2.1 (R_X4_readExpr n).2.2.2.2.1 (R_X4_readExpr n).2.2.2.2.2 (b + 1) (q_i3 (12 - d))) μ (cPost b x L (pMM x (opL x d) q t) cd μ) := by
      intro emm
      unfold F_X4_readFactor_L143 F_X4_readFactor_L167 pMM
      obtain ⟨m, rfl⟩ : ∃ m, n = m + 6 := ⟨n - 6, by omega⟩
      have be : ∀ c, Brk b tp L (bn (pRc 4 (some (b + 1))) fun b25 => bn (F_X4_emit b25 c) fun _ => rt ()) := fun c => Brk_call (P := fun b25 => F_X4_emit b25 c) Brk_emit Brk_rt
      have bb : ∀ c, Brk b tp L (bn (pRc 4 (some (b + 1))) fun b24 => bn ((R_X4_readExpr (m + 6)).2.2.2.2.2 b24 (q_i3 (12 - d)) (1 : Int32)) fun _ => bn (pRc 4 (some (b + 1))) fun b25 => bn (F_X4_emit b25 c) fun _ => rt ()) := fun c => Brk_call (P := fun b24 => (R_X4_readExpr (m + 6)).2.2.2.2.2 b24 (q_i3 (12 - d)) 1) (q_bB b L tp m _ 1) (be c)
      rw [wp_bn, xgI4 hE.1, hk, wp_bn, xpR4 hE.1]
      refine cT_bind hA hx hE hS ?_ ?_
      · refine Brk_kind ?_
        rw [if_neg (by decide)]
        exact Brk_call (P := fun b23 => F_X4_refuseIf b23 1 2) Brk_ref (bb _)
      · intro q1 ν hq1 hE1 h1
        rw [wp_bn, xgI4 hE1.1, show mI ν (64 * 4 + 6) (b + 1) = lxk x q1 from h1.1.2.2.1, wp_ite]
        by_cases e1 : lxk x q1 = 40
        · rw [if_pos e1, if_pos e1, wp_bn, xpR4 hE1.1, wp_bn, wp_eq c_ref0, wp_bn, xpR4 hE1.1]
          refine cP_bind hE1 (hB ν q1 (t + 1) cd hE1 h1 (lxk x q)).2 (be _) ?_
          intro r ρ hr hE2 h2
          obtain ⟨a1, a2, a3, a4, a5, a6⟩ := q_Good.pair (op_good hx.1 d) emm hr
          rw [wp_bn, xpR4 hE2.1]
          refine cE_bind hE2 h2 (by rw [List.length_append]; omega) ?_
          intro σ hE3 h3
          rw [wp_rt]
          refine cP_ok ?_
          show cSt σ b x L r.1 r.2.1 (cd ++ (r.2.2.1 ++ [- lxk x q]))
          rw [← List.append_assoc]; exact h3
        · rw [if_neg e1, if_neg e1, wp_bn, xpR4 hE1.1]
          exact cR_bind hx hE1 h1 (bb _)
    by_cases e14 : lxk x q = 14
    · rw [if_pos e14, if_pos (Or.inl e14)]; exact L143 (Or.inl e14)
    rw [if_neg e14, wp_bn, xgI4 hE.1, hk, wp_ite]
    by_cases e15 : lxk x q = 15
    · rw [if_neg (fun z => z e15), if_pos (Or.inr e15)]; exact L143 (Or.inr e15)
    · rw [if_pos e15, if_neg (fun z => z.elim e14 e15), wp_bn, xpR4 hE.1]
      exact cR_bind hx hE hS Brk_rt
  by_cases e6 : lxk x q < 6
  · rw [if_pos e6]; exact L62 fun z => z.1 e6
  · rw [if_neg e6, wp_bn, xgI4 hE.1, hk, wp_ite]
    by_cases e12 : (12 : Int32) ≤ lxk x q
    · rw [if_pos e12]; refine L62 fun z => ?_
      have := z.2
      rw [Int32.lt_iff_toInt_lt] at this
      rw [Int32.le_iff_toInt_le] at e12
      omega
    · have l12 : lxk x q < 12 := by rw [Int32.le_iff_toInt_le] at e12; rw [Int32.lt_iff_toInt_lt]; omega
      rw [if_neg e12, if_pos ⟨e6, l12⟩, wp_bn, xgI4 hE.1, hk]
      exact c_emTk hA hx hE hS
theorem c_ploop {b L d : Nat} {tp : Nat → Int32} {x : q_Lx} {rE rC rS rP rF : Nat → Int32 → M Unit} {q_rB : Nat → Int32 → Int32 → M Unit} {F : Nat → Nat → q_Res} (hA : AdvOK b tp L x) (hx : xOK x L) (hG : GoodF x F) (hF : CSpec b tp L x (fun o => rF (b + 1) o) F d) (hbr : ∀ o, Brk b tp L (rF (b + 1) o)) : ∀ (g f i : Nat) (μ : Mem) (r : q_Pr) (cd : List Int32), q_Env μ b tp L → cSt μ b x L r.1 r.2.1 (cd ++ r.2.2.1) → i < r.2.1 → 60 - r.2.1 < g → 60 - r.2.1 < f → q_wp (F_X4_readPart_L7 rE rC rS rP rF q_rB (f + 1) (b + 1) (q_i3 (12 - d)) (q_i3 i)) μ (cPost b x L (pLp x 42 47 F g r) cd μ) := by
  intro g
  induction g with
  | zero => intro f i μ r cd _ _ _ h; omega
  | succ g ih =>
    intro f i μ r cd hE hS hi hg hf
    have t60 : r.2.1 ≤ 60 := hS.2.2.2.2.2.2.2
    have hk : mI μ (64 * 4 + 6) (b + 1) = lxk x r.1 := hS.1.2.2.1
    have L31 : (lxk x r.1 = 42 ∨ lxk x r.1 = 47) → q_wp (F_X4_readPart_L31 rE rC rS rP rF q_rB (F_X4_readPart_L7 rE rC rS rP rF q_rB f) (b + 1) (q_i3 (12 - d)) (q_i3 i)) μ (cPost b x L (pLp x 42 47 F (g + 1) r) cd μ) := by
      intro e
      unfold F_X4_readPart_L31
      show q_wp _ μ (cPost b x L (if lxk x r.1 = 42 ∨ lxk x r.1 = 47 then thn (tkE x r.2.1 r.1) fun q1 => thn (F q1 (r.2.1 + 1)) fun u => pLp x 42 47 F g (u.1, u.2.1, r.2.2.1 ++ (u.2.2.1 ++ [- lxk x r.1]), r.2.2.2.1 ++ tkq x r.1 :: u.2.2.2.1, fun w => cmb (lxk x r.1) (r.2.2.2.2 w) (u.2.2.2.2 w)) else .ok r) cd μ)
      obtain ⟨f, rfl⟩ : ∃ f', f = f' + 1 := ⟨f - 1, by omega⟩
      rw [if_pos e, wp_bn, xgI4 hE.1, hk, wp_bn, xpR4 hE.1]
      have be : ∀ c, Brk b tp L (bn (pRc 4 (some (b + 1))) fun b7 => bn (F_X4_emit b7 c) fun _ => F_X4_readPart_L7 rE rC rS rP rF q_rB (f + 1) (b + 1) (q_i3 (12 - d)) (q_i3 i + (1 : Int32))) := fun c => Brk_call (P := fun b7 => F_X4_emit b7 c) Brk_emit (bPL b L tp f _ _)
      refine cT_bind hA hx hE hS (Brk_call (P := fun b6 => rF b6 (q_i3 (12 - d))) (hbr _) (be _)) ?_
      intro q1 ν hq1 hE1 h1
      obtain ⟨tl, _, _⟩ := tkE_ok hq1
      rw [wp_bn, xpR4 hE1.1]
      have h2 := hF ν q1 (r.2.1 + 1) (cd ++ r.2.2.1) hE1 h1
      rw [wp_bn]
      refine q_wp_mono h2 ?_
      rintro _ ρ ⟨m2, g2, g3⟩
      have hE2 := hE1.md m2 rfl
      cases hu : F q1 (r.2.1 + 1) with
      | error er =>
        refine q_wp_mono (be _ ρ er hE2 (g3 er hu)) ?_
        rintro _ υ ⟨m5, c5⟩
        exact ⟨(m2.tr m5).wk rfl, fun u hu => (by cases hu), fun e' he => (by cases he; exact c5)⟩
      | ok u =>
        obtain ⟨a1, a2, a3, a4, a5, a6⟩ := hG _ _ _ hu
        have h3 := g2 u hu
        have cl : (cd ++ r.2.2.1).length ≤ r.2.1 := hS.2.2.2.2.2.2.1
        have hpost : q_wp (bn (pRc 4 (some (b + 1))) fun b7 => bn (F_X4_emit b7 (- lxk x r.1)) fun _ => F_X4_readPart_L7 rE rC rS rP rF q_rB (f + 1) (b + 1) (q_i3 (12 - d)) (q_i3 i + (1 : Int32))) ρ (cPost b x L (pLp x 42 47 F g (u.1, u.2.1, r.2.2.1 ++ (u.2.2.1 ++ [- lxk x r.1]), r.2.2.2.1 ++ tkq x r.1 :: u.2.2.2.1, fun w => cmb (lxk x r.1) (r.2.2.2.2 w) (u.2.2.2.2 w))) cd ρ) := by
          rw [wp_bn, xpR4 hE2.1]
          refine cE_bind hE2 h3 (by rw [List.length_append]; omega) ?_
          intro σ hE3 h4
          rw [i3_1]
          refine ih f (i + 1) σ (u.1, u.2.1, r.2.2.1 ++ (u.2.2.1 ++ [- lxk x r.1]), r.2.2.2.1 ++ tkq x r.1 :: u.2.2.2.1, fun w => cmb (lxk x r.1) (r.2.2.2.2 w) (u.2.2.2.2 w)) cd hE3 ?_ (by show i + 1 < u.2.1; omega) (by show 60 - u.2.1 < g; omega) (by show 60 - u.2.1 < f; omega)
          show cSt σ b x L u.1 u.2.1 (cd ++ (r.2.2.1 ++ (u.2.2.1 ++ [- lxk x r.1])))
          rw [← List.append_assoc, ← List.append_assoc]; exact h4
        refine q_wp_mono hpost ?_
        rintro _ υ ⟨m5, c5⟩
        exact ⟨(m2.tr m5).wk rfl, c5⟩
    show q_wp (if (60 : Int32) ≤ q_i3 i then rt () else bn (gI 4 6 (some (b + 1))) fun v2 => if v2 = (42 : Int32) then F_X4_readPart_L31 rE rC rS rP rF q_rB (F_X4_readPart_L7 rE rC rS rP rF q_rB f) (b + 1) (q_i3 (12 - d)) (q_i3 i) else bn (gI 4 6 (some (b + 1))) fun v3 => if ¬ v3 = (47 : Int32) then rt () else F_X4_readPart_L31 rE rC rS rP rF q_rB (F_X4_readPart_L7 rE rC rS rP rF q_rB f) (b + 1) (q_i3 (12 - d)) (q_i3 i)) μ _
    rw [wp_ite, if_neg (fun z => by have := (i3_le (a := 60) (by omega) (by omega)).mp z; omega), wp_bn, xgI4 hE.1, hk, wp_ite]
    by_cases e1 : lxk x r.1 = 42
    · rw [if_pos e1]; exact L31 (Or.inl e1)
    rw [if_neg e1, wp_bn, xgI4 hE.1, hk, wp_ite]
    by_cases e2 : lxk x r.1 = 47
    · rw [if_neg (fun z => z e2)]; exact L31 (Or.inr e2)
    · rw [if_pos e2, wp_rt]
      show cPost b x L (if lxk x r.1 = 42 ∨ lxk x r.1 = 47 then _ else .ok r) cd μ () μ
      rw [if_neg (fun z => z.elim e1 e2)]
      exact cP_ok hS

theorem c_sloop {b L d : Nat} {tp : Nat → Int32} {x : q_Lx} {rE rC rS rP rF : Nat → Int32 → M Unit} {q_rB : Nat → Int32 → Int32 → M Unit} {F : Nat → Nat → q_Res} (hA : AdvOK b tp L x) (hx : xOK x L) (hG : GoodF x F) (hF : CSpec b tp L x (fun o => rP (b + 1) o) F d) (hbr : ∀ o, Brk b tp L (rP (b + 1) o)) : ∀ (g f i : Nat) (μ : Mem) (r : q_Pr) (cd : List Int32), q_Env μ b tp L → cSt μ b x L r.1 r.2.1 (cd ++ r.2.2.1) → i < r.2.1 → 60 - r.2.1 < g → 60 - r.2.1 < f → q_wp (F_X4_readSum_L7 rE rC rS rP rF q_rB (f + 1) (b + 1) (q_i3 (12 - d)) (q_i3 i)) μ (cPost b x L (pLp x 43 45 F g r) cd μ) := by
  intro g
  induction g with
  | zero => intro f i μ r cd _ _ _ h; omega
  | succ g ih =>
    intro f i μ r cd hE hS hi hg hf
    have t60 : r.2.1 ≤ 60 := hS.2.2.2.2.2.2.2
    have hk : mI μ (64 * 4 + 6) (b + 1) = lxk x r.1 := hS.1.2.2.1
    have L31 : (lxk x r.1 = 43 ∨ lxk x r.1 = 45) → q_wp (F_X4_readSum_L31 rE rC rS rP rF q_rB (F_X4_readSum_L7 rE rC rS rP rF q_rB f) (b + 1) (q_i3 (12 - d)) (q_i3 i)) μ (cPost b x L (pLp x 43 45 F (g + 1) r) cd μ) := by
      intro e
      unfold F_X4_readSum_L31
      show q_wp _ μ (cPost b x L (if lxk x r.1 = 43 ∨ lxk x r.1 = 45 then thn (tkE x r.2.1 r.1) fun q1 => thn (F q1 (r.2.1 + 1)) fun u => pLp x 43 45 F g (u.1, u.2.1, r.2.2.1 ++ (u.2.2.1 ++ [- lxk x r.1]), r.2.2.2.1 ++ tkq x r.1 :: u.2.2.2.1, fun w => cmb (lxk x r.1) (r.2.2.2.2 w) (u.2.2.2.2 w)) else .ok r) cd μ)
      obtain ⟨f, rfl⟩ : ∃ f', f = f' + 1 := ⟨f - 1, by omega⟩
      rw [if_pos e, wp_bn, xgI4 hE.1, hk, wp_bn, xpR4 hE.1]
      have be : ∀ c, Brk b tp L (bn (pRc 4 (some (b + 1))) fun b7 => bn (F_X4_emit b7 c) fun _ => F_X4_readSum_L7 rE rC rS rP rF q_rB (f + 1) (b + 1) (q_i3 (12 - d)) (q_i3 i + (1 : Int32))) := fun c => Brk_call (P := fun b7 => F_X4_emit b7 c) Brk_emit (bSL b L tp f _ _)
      refine cT_bind hA hx hE hS (Brk_call (P := fun b6 => rP b6 (q_i3 (12 - d))) (hbr _) (be _)) ?_
      intro q1 ν hq1 hE1 h1
      obtain ⟨tl, _, _⟩ := tkE_ok hq1
      rw [wp_bn, xpR4 hE1.1]
      have h2 := hF ν q1 (r.2.1 + 1) (cd ++ r.2.2.1) hE1 h1
      rw [wp_bn]
      refine q_wp_mono h2 ?_
      rintro _ ρ ⟨m2, g2, g3⟩
      have hE2 := hE1.md m2 rfl
      cases hu : F q1 (r.2.1 + 1) with
      | error er =>
        refine q_wp_mono (be _ ρ er hE2 (g3 er hu)) ?_
        rintro _ υ ⟨m5, c5⟩
        exact ⟨(m2.tr m5).wk rfl, fun u hu => (by cases hu), fun e' he => (by cases he; exact c5)⟩
      | ok u =>
        obtain ⟨a1, a2, a3, a4, a5, a6⟩ := hG _ _ _ hu
        have h3 := g2 u hu
        have cl : (cd ++ r.2.2.1).length ≤ r.2.1 := hS.2.2.2.2.2.2.1
        have hpost : q_wp (bn (pRc 4 (some (b + 1))) fun b7 => bn (F_X4_emit b7 (- lxk x r.1)) fun _ => F_X4_readSum_L7 rE rC rS rP rF q_rB (f + 1) (b + 1) (q_i3 (12 - d)) (q_i3 i + (1 : Int32))) ρ (cPost b x L (pLp x 43 45 F g (u.1, u.2.1, r.2.2.1 ++ (u.2.2.1 ++ [- lxk x r.1]), r.2.2.2.1 ++ tkq x r.1 :: u.2.2.2.1, fun w => cmb (lxk x r.1) (r.2.2.2.2 w) (u.2.2.2.2 w))) cd ρ) := by
          rw [wp_bn, xpR4 hE2.1]
          refine cE_bind hE2 h3 (by rw [List.length_append]; omega) ?_
          intro σ hE3 h4
          rw [i3_1]
          refine ih f (i + 1) σ (u.1, u.2.1, r.2.2.1 ++ (u.2.2.1 ++ [- lxk x r.1]), r.2.2.2.1 ++ tkq x r.1 :: u.2.2.2.1, fun w => cmb (lxk x r.1) (r.2.2.2.2 w) (u.2.2.2.2 w)) cd hE3 ?_ (by show i + 1 < u.2.1; omega) (by show 60 - u.2.1 < g; omega) (by show 60 - u.2.1 < f; omega)
          show cSt σ b x L u.1 u.2.1 (cd ++ (r.2.2.1 ++ (u.2.2.1 ++ [- lxk x r.1])))
          rw [← List.append_assoc, ← List.append_assoc]; exact h4
        refine q_wp_mono hpost ?_
        rintro _ υ ⟨m5, c5⟩
        exact ⟨(m2.tr m5).wk rfl, c5⟩
    show q_wp (if (60 : Int32) ≤ q_i3 i then rt () else bn (gI 4 6 (some (b + 1))) fun v2 => if v2 = (43 : Int32) then F_X4_readSum_L31 rE rC rS rP rF q_rB (F_X4_readSum_L7 rE rC rS rP rF q_rB f) (b + 1) (q_i3 (12 - d)) (q_i3 i) else bn (gI 4 6 (some (b + 1))) fun v3 => if ¬ v3 = (45 : Int32) then rt () else F_X4_readSum_L31 rE rC rS rP rF q_rB (F_X4_readSum_L7 rE rC rS rP rF q_rB f) (b + 1) (q_i3 (12 - d)) (q_i3 i)) μ _
    rw [wp_ite, if_neg (fun z => by have := (i3_le (a := 60) (by omega) (by omega)).mp z; omega), wp_bn, xgI4 hE.1, hk, wp_ite]
    by_cases e1 : lxk x r.1 = 43
    · rw [if_pos e1]; exact L31 (Or.inl e1)
    rw [if_neg e1, wp_bn, xgI4 hE.1, hk, wp_ite]
    by_cases e2 : lxk x r.1 = 45
    · rw [if_neg (fun z => z e2)]; exact L31 (Or.inr e2)
    · rw [if_pos e2, wp_rt]
      show cPost b x L (if lxk x r.1 = 43 ∨ lxk x r.1 = 45 then _ else .ok r) cd μ () μ
      rw [if_neg (fun z => z.elim e1 e2)]
      exact cP_ok hS
theorem c_prt {b L n d : Nat} {tp : Nat → Int32} {x : q_Lx} (hA : AdvOK b tp L x) (hx : xOK x L) (hn : 1 ≤ n) (hF : CSpec b tp L x (fun o => (R_X4_readExpr n).2.2.2.2.1 (b + 1) o) (pFac x (opL x d)) d) : CSpec b tp L x (fun o => (R_X4_readExpr (n + 1)).2.2.2.1 (b + 1) o) (pPrt x (opL x d)) d := by
  intro μ q t cd hE hS
  obtain ⟨m, rfl⟩ : ∃ m, n = m + 1 := ⟨n - 1, by omega⟩
  show q_wp (F_X4_readPart_B _ _ _ _ _ _ (b + 1) (q_i3 (12 - d))) μ _
  unfold F_X4_readPart_B pPrt
  rw [wp_bn, xpR4 hE.1]
  refine cP_bind hE (hF μ q t cd hE hS) (bPL b L tp 99999 _ 0) ?_
  intro r ν hr hE1 h1
  obtain ⟨a1, a2, a3, a4, a5, a6⟩ := fac_good hx.1 (op_good hx.1 d) _ _ _ hr
  exact c_ploop hA hx (fac_good hx.1 (op_good hx.1 d)) hF (fun o => bF b L tp m o) 61 99999 0 ν r cd hE1 h1 (by omega) (by omega) (by omega)
theorem c_sum {b L n d : Nat} {tp : Nat → Int32} {x : q_Lx} (hA : AdvOK b tp L x) (hx : xOK x L) (hn : 2 ≤ n) (hF : CSpec b tp L x (fun o => (R_X4_readExpr n).2.2.2.1 (b + 1) o) (pPrt x (opL x d)) d) : CSpec b tp L x (fun o => (R_X4_readExpr (n + 1)).2.2.1 (b + 1) o) (pSum x (opL x d)) d := by
  intro μ q t cd hE hS
  obtain ⟨m, rfl⟩ : ∃ m, n = m + 2 := ⟨n - 2, by omega⟩
  show q_wp (F_X4_readSum_B _ _ _ _ _ _ (b + 1) (q_i3 (12 - d))) μ _
  unfold F_X4_readSum_B pSum
  rw [wp_bn, xpR4 hE.1]
  refine cP_bind hE (hF μ q t cd hE hS) (bSL b L tp 99999 _ 0) ?_
  intro r ν hr hE1 h1
  obtain ⟨a1, a2, a3, a4, a5, a6⟩ := prt_good hx.1 (op_good hx.1 d) _ _ _ hr
  exact c_sloop hA hx (prt_good hx.1 (op_good hx.1 d)) hF (fun o => bP b L tp m o) 61 99999 0 ν r cd hE1 h1 (by omega) (by omega) (by omega)
theorem c_cnd {b L n d : Nat} {tp : Nat → Int32} {x : q_Lx} (hA : AdvOK b tp L x) (hx : xOK x L) (hn : 3 ≤ n) (hF : CSpec b tp L x (fun o => (R_X4_readExpr n).2.2.1 (b + 1) o) (pSum x (opL x d)) d) : CSpec b tp L x (fun o => (R_X4_readExpr (n + 1)).2.1 (b + 1) o) (pCnd x (opL x d)) d := by
  intro μ q t cd hE hS
  obtain ⟨m, rfl⟩ : ∃ m, n = m + 3 := ⟨n - 3, by omega⟩
  show q_wp (F_X4_readCond_B (R_X4_readExpr (m + 3)).1 (R_X4_readExpr (m + 3)).2.1 (R_X4_readExpr (m + 3)).2.2.1 (R_X4_readExpr (m + 3)).2.2.2.1 (R_X4_readExpr (m + 3)).2.2.2.2.1 (R_X4_readExpr (m + 3)).2.2.2.2.2 (b + 1) (q_i3 (12 - d))) μ _
  unfold F_X4_readCond_B pCnd
  rw [wp_bn, xpR4 hE.1]
  refine cP_bind hE (hF μ q t cd hE hS) ?_ ?_
  · refine Brk_kind ?_
    rw [if_neg (by decide)]
    refine Brk_kind ?_
    rw [if_neg (by decide)]
    refine Brk_kind ?_
    rw [if_pos (by decide)]
    exact Brk_rt
  · intro r ν hr hE1 h1
    obtain ⟨a1, a2, a3, a4, a5, a6⟩ := sum_good hx.1 (op_good hx.1 d) _ _ _ hr
    have hk : mI ν (64 * 4 + 6) (b + 1) = lxk x r.1 := h1.1.2.2.1
    have L32 : (lxk x r.1 = 60 ∨ lxk x r.1 = 62 ∨ lxk x r.1 = 61) → q_wp (F_X4_readCond_L32 (R_X4_readExpr (m + 3)).1 (R_X4_readExpr (m + 3)).2.1 (R_X4_readExpr (m + 3)).2.2.1 (R_X4_readExpr (m + 3)).2.2.2.1 (R_X4_readExpr (m + 3)).2.2.2.2.1 (R_X4_readExpr (m + 3)).2.2.2.2.2 (b + 1) (q_i3 (12 - d))) ν (cPost b x L (if lxk x r.1 = 60 ∨ lxk x r.1 = 62 ∨ lxk x r.1 = 61 then thn (tkE x r.2.1 r.1) fun q1 => thn (pSum x (opL x d) q1 (r.2.1 + 1)) fun u => .ok (u.1, u.2.1, r.2.2.1 ++ (u.2.2.1 ++ [- lxk x r.1]), r.2.2.2.1 ++ tkq x r.1 :: u.2.2.2.1, fun w => cmb (lxk x r.1) (r.2.2.2.2 w) (u.2.2.2.2 w)) else .ok r) cd ν) := by
      intro e
      unfold F_X4_readCond_L32
      rw [if_pos e, wp_bn, xgI4 hE1.1, hk, wp_bn, xpR4 hE1.1]
      have be : ∀ c, Brk b tp L (bn (pRc 4 (some (b + 1))) fun b8 => bn (F_X4_emit b8 c) fun _ => rt ()) := fun c => Brk_call (P := fun b8 => F_X4_emit b8 c) Brk_emit Brk_rt
      refine cT_bind hA hx hE1 h1 (Brk_call (P := fun b7 => (R_X4_readExpr (m + 3)).2.2.1 b7 (q_i3 (12 - d))) (bS b L tp m _) (be _)) ?_
      intro q1 ρ hq1 hE2 h2
      rw [wp_bn, xpR4 hE2.1, wp_bn]
      refine q_wp_mono (hF ρ q1 (r.2.1 + 1) (cd ++ r.2.2.1) hE2 h2) ?_
      rintro _ σ ⟨m2, g2, g3⟩
      have hE3 := hE2.md m2 rfl
      cases hu : pSum x (opL x d) q1 (r.2.1 + 1) with
      | error er =>
        refine q_wp_mono (be _ σ er hE3 (g3 er hu)) ?_
        rintro _ υ ⟨m5, c5⟩
        exact ⟨(m2.tr m5).wk rfl, fun u hu => (by cases hu), fun e' he => (by cases he; exact c5)⟩
      | ok u =>
        obtain ⟨b1, b2, b3, b4, b5, b6⟩ := sum_good hx.1 (op_good hx.1 d) _ _ _ hu
        have cl : (cd ++ r.2.2.1).length ≤ r.2.1 := h1.2.2.2.2.2.2.1
        have hp : q_wp (bn (pRc 4 (some (b + 1))) fun b8 => bn (F_X4_emit b8 (- lxk x r.1)) fun _ => rt ()) σ (cPost b x L (.ok (u.1, u.2.1, r.2.2.1 ++ (u.2.2.1 ++ [- lxk x r.1]), r.2.2.2.1 ++ tkq x r.1 :: u.2.2.2.1, fun w => cmb (lxk x r.1) (r.2.2.2.2 w) (u.2.2.2.2 w))) cd σ) := by
          rw [wp_bn, xpR4 hE3.1]
          refine cE_bind hE3 (g2 u hu) (by rw [List.length_append]; omega) ?_
          intro τ hE4 h4
          rw [wp_rt]
          refine cP_ok ?_
          show cSt τ b x L u.1 u.2.1 (cd ++ (r.2.2.1 ++ (u.2.2.1 ++ [- lxk x r.1])))
          rw [← List.append_assoc, ← List.append_assoc]; exact h4
        refine q_wp_mono hp ?_
        rintro _ υ ⟨m5, c5⟩
        exact ⟨(m2.tr m5).wk rfl, c5⟩
    rw [wp_bn, xgI4 hE1.1, hk, wp_ite]
    by_cases e1 : lxk x r.1 = 60
    · rw [if_pos e1]; exact L32 (Or.inl e1)
    rw [if_neg e1, wp_bn, xgI4 hE1.1, hk, wp_ite]
    by_cases e2 : lxk x r.1 = 62
    · rw [if_pos e2]; exact L32 (Or.inr (Or.inl e2))
    rw [if_neg e2, wp_bn, xgI4 hE1.1, hk, wp_ite]
    by_cases e3 : lxk x r.1 = 61
    · rw [if_neg (fun z => z e3)]; exact L32 (Or.inr (Or.inr e3))
    · rw [if_pos e3, wp_rt, if_neg (fun z => z.elim e1 (fun z => z.elim e2 e3))]
      exact cP_ok h1
theorem c_exp {b L n d : Nat} {tp : Nat → Int32} {x : q_Lx} (hA : AdvOK b tp L x) (hx : xOK x L) (hd : d ≤ 12) (hn : 5 ≤ n) (hF : CSpec b tp L x (fun o => (R_X4_readExpr n).2.1 (b + 1) o) (pCnd x (opL x d)) d) (hE' : ∀ d', d = d' + 1 → CSpec b tp L x (fun o => (R_X4_readExpr n).1 (b + 1) o) (pLv x d').1 d') : CSpec b tp L x (fun o => (R_X4_readExpr (n + 1)).1 (b + 1) o) (pExp x (opL x d)) d := by
  intro μ q t cd hE hS
  obtain ⟨m, rfl⟩ : ∃ m, n = m + 5 := ⟨n - 5, by omega⟩
  have hlt : q_i3 (12 - d) < 12 ↔ 12 - d < 12 := i3_lt (b := 12) (by omega) (by omega)
  show q_wp (F_X4_readExpr_B (R_X4_readExpr (m + 5)).1 (R_X4_readExpr (m + 5)).2.1 (R_X4_readExpr (m + 5)).2.2.1 (R_X4_readExpr (m + 5)).2.2.2.1 (R_X4_readExpr (m + 5)).2.2.2.2.1 (R_X4_readExpr (m + 5)).2.2.2.2.2 (b + 1) (q_i3 (12 - d))) μ _
  unfold F_X4_readExpr_B pExp
  have b56 : ∀ y o, Brk b tp L (F_X4_readExpr_L56 (R_X4_readExpr (m + 5)).1 (R_X4_readExpr (m + 5)).2.1 (R_X4_readExpr (m + 5)).2.2.1 (R_X4_readExpr (m + 5)).2.2.2.1 (R_X4_readExpr (m + 5)).2.2.2.2.1 (R_X4_readExpr (m + 5)).2.2.2.2.2 (b + 1) o y (some (b + 1))) := by
    intro y o
    unfold F_X4_readExpr_L56
    exact Brk_call (P := fun b7 => F_X4_refuseIf b7 y 2) Brk_ref (Brk_call (P := fun b8 => F_X4_take b8) Brk_take (Brk_call (P := fun b9 => (R_X4_readExpr (m + 5)).1 b9 (o + 1)) (bE b L tp m _) (Brk_call (P := fun b10 => F_X4_emit b10 (-8)) Brk_emit Brk_rt)))
  have b58 : ∀ o, Brk b tp L (bn (gI 4 6 (some (b + 1))) fun v6 => if v6 = (58 : Int32) then F_X4_readExpr_L56 (R_X4_readExpr (m + 5)).1 (R_X4_readExpr (m + 5)).2.1 (R_X4_readExpr (m + 5)).2.2.1 (R_X4_readExpr (m + 5)).2.2.2.1 (R_X4_readExpr (m + 5)).2.2.2.2.1 (R_X4_readExpr (m + 5)).2.2.2.2.2 (b + 1) o (0 : Int32) (some (b + 1)) else F_X4_readExpr_L56 (R_X4_readExpr (m + 5)).1 (R_X4_readExpr (m + 5)).2.1 (R_X4_readExpr (m + 5)).2.2.1 (R_X4_readExpr (m + 5)).2.2.2.1 (R_X4_readExpr (m + 5)).2.2.2.2.1 (R_X4_readExpr (m + 5)).2.2.2.2.2 (b + 1) o (1 : Int32) (some (b + 1))) := by
    intro o
    refine Brk_kind ?_
    rw [if_neg (by decide)]
    exact b56 1 o
  rw [wp_bn, xpR4 hE.1]
  refine cP_bind hE (hF μ q t cd hE hS) ?_ ?_
  · refine Brk_kind ?_
    rw [if_pos (by decide)]
    exact Brk_rt
  · intro r ν hr hE1 h1
    have hk : mI ν (64 * 4 + 6) (b + 1) = lxk x r.1 := h1.1.2.2.1
    obtain ⟨a1, a2, a3, a4, a5, a6⟩ := cnd_good hx.1 (op_good hx.1 d) _ _ _ hr
    rw [wp_bn, xgI4 hE1.1, hk, wp_ite]
    by_cases e63 : lxk x r.1 = 63
    rotate_left
    · rw [if_pos e63, if_neg e63, wp_rt]; exact cP_ok h1
    rw [if_neg (fun z => z e63), if_pos e63, wp_ite]
    unfold F_X4_readExpr_L26
    cases d with
    | zero =>
      rw [if_neg (fun z => by have := hlt.mp z; omega), wp_bn, xpR4 hE1.1]
      exact cR_bind hx hE1 h1 (Brk_call (P := fun b4 => F_X4_take b4) Brk_take (Brk_call (P := fun b5 => (R_X4_readExpr (m + 5)).1 b5 _) (bE b L tp m _) (b58 _)))
    | succ d =>
      have eo : q_i3 (12 - (d + 1)) + 1 = q_i3 (12 - d) := by rw [i3_1]; congr 1; omega
      rw [if_pos (hlt.mpr (by omega)), wp_bn, xpR4 hE1.1, wp_bn, wp_eq c_ref0, wp_bn, xpR4 hE1.1]
      show q_wp _ ν (cPost b x L (thn (tkE x r.2.1 r.1) fun q1 => thn ((pLv x d).1 q1 (r.2.1 + 1)) fun u => if lxk x u.1 = 58 then thn (tkE x u.2.1 u.1) fun q3 => thn ((pLv x d).1 q3 (u.2.1 + 1)) fun y => .ok (y.1, y.2.1, r.2.2.1 ++ (u.2.2.1 ++ (y.2.2.1 ++ [-8])), r.2.2.2.1 ++ tkq x r.1 :: (u.2.2.2.1 ++ tkq x u.1 :: y.2.2.2.1), fun w => if r.2.2.2.2 w = 0 then y.2.2.2.2 w else u.2.2.2.2 w) else .error (2, lxf x u.1)) cd ν)
      refine cT_bind hA hx hE1 h1 (Brk_call (P := fun b5 => (R_X4_readExpr (m + 5)).1 b5 _) (bE b L tp m _) (b58 _)) ?_
      intro q1 ρ hq1 hE2 h2
      rw [wp_bn, xpR4 hE2.1]
      rw [show ((R_X4_readExpr (m + 5)).1 (b + 1) (q_i3 (12 - (d + 1)) + 1)) = (R_X4_readExpr (m + 5)).1 (b + 1) (q_i3 (12 - d)) by rw [eo], wp_bn]
      refine q_wp_mono (hE' d rfl ρ q1 (r.2.1 + 1) (cd ++ r.2.2.1) hE2 h2) ?_
      rintro _ σ ⟨m2, g2, g3⟩
      have hE3 := hE2.md m2 rfl
      cases hu : (pLv x d).1 q1 (r.2.1 + 1) with
      | error er =>
        refine q_wp_mono (b58 _ σ er hE3 (g3 er hu)) ?_
        rintro _ υ ⟨m5, c5⟩
        exact ⟨(m2.tr m5).wk rfl, fun u hu => (by cases hu), fun e' he => (by cases he; exact c5)⟩
      | ok u =>
        obtain ⟨b1, b2, b3, b4, b5, b6⟩ := (lv_good hx.1 d).1 _ _ _ hu
        have h3 := g2 u hu
        have hp : q_wp (bn (gI 4 6 (some (b + 1))) fun v6 => if v6 = (58 : Int32) then F_X4_readExpr_L56 (R_X4_readExpr (m + 5)).1 (R_X4_readExpr (m + 5)).2.1 (R_X4_readExpr (m + 5)).2.2.1 (R_X4_readExpr (m + 5)).2.2.2.1 (R_X4_readExpr (m + 5)).2.2.2.2.1 (R_X4_readExpr (m + 5)).2.2.2.2.2 (b + 1) (q_i3 (12 - (d + 1))) (0 : Int32) (some (b + 1)) else F_X4_readExpr_L56 (R_X4_readExpr (m + 5)).1 (R_X4_readExpr (m + 5)).2.1 (R_X4_readExpr (m + 5)).2.2.1 (R_X4_readExpr (m + 5)).2.2.2.1 (R_X4_readExpr (m + 5)).2.2.2.2.1 (R_X4_readExpr (m + 5)).2.2.2.2.2 (b + 1) (q_i3 (12 - (d + 1))) (1 : Int32) (some (b + 1))) σ (cPost b x L (if lxk x u.1 = 58 then thn (tkE x u.2.1 u.1) fun q3 => thn ((pLv x d).1 q3 (u.2.1 + 1)) fun y => .ok (y.1, y.2.1, r.2.2.1 ++ (u.2.2.1 ++ (y.2.2.1 ++ [-8])), r.2.2.2.1 ++ tkq x r.1 :: (u.2.2.2.1 ++ tkq x u.1 :: y.2.2.2.1), fun w => if r.2.2.2.2 w = 0 then y.2.2.2.2 w else u.2.2.2.2 w) else .error (2, lxf x u.1)) cd σ) := by
          rw [wp_bn, xgI4 hE3.1, show mI σ (64 * 4 + 6) (b + 1) = lxk x u.1 from h3.1.2.2.1, wp_ite]
          unfold F_X4_readExpr_L56
          have be : Brk b tp L (bn (pRc 4 (some (b + 1))) fun b10 => bn (F_X4_emit b10 (-8 : Int32)) fun _ => rt ()) := Brk_call (P := fun b10 => F_X4_emit b10 (-8)) Brk_emit Brk_rt
          by_cases e : lxk x u.1 = 58
          · rw [if_pos e, if_pos e, wp_bn, xpR4 hE3.1, wp_bn, wp_eq c_ref0, wp_bn, xpR4 hE3.1]
            refine cT_bind hA hx hE3 h3 (Brk_call (P := fun b9 => (R_X4_readExpr (m + 5)).1 b9 _) (bE b L tp m _) be) ?_
            intro q3 τ hq3 hE4 h4
            rw [wp_bn, xpR4 hE4.1, eo, wp_bn]
            refine q_wp_mono (hE' d rfl τ q3 (u.2.1 + 1) (cd ++ r.2.2.1 ++ u.2.2.1) hE4 h4) ?_
            rintro _ υ ⟨m5, g5, g6⟩
            have hE5 := hE4.md m5 rfl
            cases hy : (pLv x d).1 q3 (u.2.1 + 1) with
            | error er =>
              refine q_wp_mono (be υ er hE5 (g6 er hy)) ?_
              rintro _ φ ⟨m6, c6⟩
              exact ⟨(m5.tr m6).wk rfl, fun u hu => (by cases hu), fun e' he => (by cases he; exact c6)⟩
            | ok y =>
              obtain ⟨d1, d2, d3, d4, d5, d6⟩ := (lv_good hx.1 d).1 _ _ _ hy
              have cl : (cd ++ r.2.2.1 ++ u.2.2.1).length ≤ u.2.1 := h3.2.2.2.2.2.2.1
              have hp2 : q_wp (bn (pRc 4 (some (b + 1))) fun b10 => bn (F_X4_emit b10 (-8 : Int32)) fun _ => rt ()) υ (cPost b x L (.ok (y.1, y.2.1, r.2.2.1 ++ (u.2.2.1 ++ (y.2.2.1 ++ [-8])), r.2.2.2.1 ++ tkq x r.1 :: (u.2.2.2.1 ++ tkq x u.1 :: y.2.2.2.1), fun w => if r.2.2.2.2 w = 0 then y.2.2.2.2 w else u.2.2.2.2 w)) cd υ) := by
                rw [wp_bn, xpR4 hE5.1]
                refine cE_bind hE5 (g5 y hy) (by rw [List.length_append]; omega) ?_
                intro φ hE6 h6
                rw [wp_rt]
                refine cP_ok ?_
                show cSt φ b x L y.1 y.2.1 (cd ++ (r.2.2.1 ++ (u.2.2.1 ++ (y.2.2.1 ++ [-8]))))
                rw [← List.append_assoc, ← List.append_assoc, ← List.append_assoc]; exact h6
              refine q_wp_mono hp2 ?_
              rintro _ φ ⟨m6, c6⟩
              exact ⟨(m5.tr m6).wk rfl, c6⟩
          · rw [if_neg e, if_neg e, wp_bn, xpR4 hE3.1]
            exact cR_bind hx hE3 h3 (Brk_call (P := fun b8 => F_X4_take b8) Brk_take (Brk_call (P := fun b9 => (R_X4_readExpr (m + 5)).1 b9 _) (bE b L tp m _) be))
        refine q_wp_mono hp ?_
        rintro _ υ ⟨m5, c5⟩
        exact ⟨(m2.tr m5).wk rfl, c5⟩
theorem c_lv {b L : Nat} {tp : Nat → Int32} {x : q_Lx} (hA : AdvOK b tp L x) (hx : xOK x L) : ∀ d, d ≤ 12 → (∀ n, 6 * d + 7 ≤ n → CSpec b tp L x (fun o => (R_X4_readExpr n).2.2.2.2.1 (b + 1) o) (pLv x d).2 d) ∧ ∀ n, 6 * d + 11 ≤ n → CSpec b tp L x (fun o => (R_X4_readExpr n).1 (b + 1) o) (pLv x d).1 d := by
  intro d
  induction d with
  | zero =>
    intro hd
    have fac : ∀ n, 7 ≤ n → CSpec b tp L x (fun o => (R_X4_readExpr n).2.2.2.2.1 (b + 1) o) (pFac x (opL x 0)) 0 := by
      intro n hn
      obtain ⟨m, rfl⟩ : ∃ m, n = m + 2 := ⟨n - 2, by omega⟩
      exact c_fac hA hx hd (by omega) (fun d' h => by omega) (fun μ q t cd hE hS k => c_br hA hx hd (by omega) (fun d' h => by omega) μ q t cd hE hS k)
    refine ⟨fun n hn => by rw [lv2]; exact fac n (by omega), fun n hn => ?_⟩
    rw [lv1]
    obtain ⟨m, rfl⟩ : ∃ m, n = m + 4 := ⟨n - 4, by omega⟩
    exact c_exp hA hx hd (by omega) (c_cnd hA hx (by omega) (c_sum hA hx (by omega) (c_prt hA hx (by omega) (fac m (by omega))))) (fun d' h => by omega)
  | succ d ih =>
    intro hd
    obtain ⟨i1, i2⟩ := ih (by omega)
    have fac : ∀ n, 6 * (d + 1) + 7 ≤ n → CSpec b tp L x (fun o => (R_X4_readExpr n).2.2.2.2.1 (b + 1) o) (pFac x (opL x (d + 1))) (d + 1) := by
      intro n hn
      obtain ⟨m, rfl⟩ : ∃ m, n = m + 2 := ⟨n - 2, by omega⟩
      exact c_fac hA hx hd (by omega) (fun d' h => by cases h; exact i1 _ (by omega)) (fun μ q t cd hE hS k => c_br hA hx hd (by omega) (fun d' h => by cases h; exact i2 _ (by omega)) μ q t cd hE hS k)
    refine ⟨fun n hn => by rw [lv2]; exact fac n (by omega), fun n hn => ?_⟩
    rw [lv1]
    obtain ⟨m, rfl⟩ : ∃ m, n = m + 4 := ⟨n - 4, by omega⟩
    exact c_exp hA hx hd (by omega) (c_cnd hA hx (by omega) (c_sum hA hx (by omega) (c_prt hA hx (by omega) (fac m (by omega))))) (fun d' h => by cases h; exact i2 _ (by omega))
