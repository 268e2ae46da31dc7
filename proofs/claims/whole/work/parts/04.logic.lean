abbrev vcl : List vw_C := [(RX0, TX0, 3), (RX1, TX1, 5), (RX2, TX2, 4), (RX3, TX3, 7), (RX4, TX4, 11), (RX5, TX5, 4), (RX6, TX6, 3), (RX7, TX7, 4), (RX8, TX8, 3), (RX9, TX9, 4), (RX10, TX10, 7), (RX11, TX11, 11), (RX12, TX12, 48), (RJx4a65c, TJx4a65c, 3)]
def ftl : List (List Nat) := [[2, 2, 2], [2, 1, 1, 3, 3], [2, 2, 2, 3], [0, 0, 0, 0, 0, 0, 0], [2, 0, 0, 0, 0, 0, 0, 0, 0, 2, 0], [0, 0, 0, 3], [0, 0, 2], [2, 2, 2, 0], [0, 0, 2], [0, 0, 0, 0], [0, 0, 0, 0, 0, 0, 3], [2, 2, 2, 2, 2, 2, 2, 2, 0, 0, 0], [2, 0, 0, 0, 2, 2, 2, 2, 2, 0, 0, 2, 2, 2, 2, 2, 2, 2, 2, 2, 2, 0, 2, 0, 0, 2, 2, 2, 2, 2, 0, 2, 0, 2, 0, 0, 0, 0, 0, 0, 0, 0, 0, 0, 0, 0, 2, 2], [0, 2, 0]]
/-! ===== the logic: a memory of maps, programs over it (M), the judgement that the machine does what a program says (Ok), a method's contract (Ct) ===== -/
/-- a method: name, bytes, locals, what it returns -/
abbrev Mth : Type := MethodName × ByteArray × Nat × Option FieldType
/-- what a walk is over: the launch, the classes' numbers and slots, the array classes' numbers, the first address of our own cells, what else is known of the outside -/
abbrev Gam : Type := Launch × va_G × (Nat → ClassId) × Nat × (Nat → Option Nat) × (State → Prop)
abbrev gL (Γ : Gam) : Launch := Γ.1
abbrev gD (Γ : Gam) : va_G := Γ.2.1
abbrev gA (Γ : Gam) : Nat → ClassId := Γ.2.2.1
abbrev gB (Γ : Gam) : Nat := Γ.2.2.2.1
abbrev gT (Γ : Gam) : Nat → Option Nat := Γ.2.2.2.2.1
abbrev gE (Γ : Gam) : State → Prop := Γ.2.2.2.2.2
/-- a field's kind: 0 int, 1 long, 2 reference, 3 boolean -/
def fty (c k : Nat) : Nat := (ftl.getD c []).getD k 0
/-- int fields, long fields, reference fields (by 64 * class + place, address); arrays' elements (by kind, address, place); kinds; lengths; the next address; slots made; constants of the outside -/
abbrev Mem : Type := (Nat → Nat → Int32) × (Nat → Nat → Int64) × (Nat → Nat → Option Nat) × (Nat → Nat → Nat → Int32) × (Nat → Nat → Nat → Int64) × (Nat → Nat → Nat → Option Nat) × (Nat → Nat) × (Nat → Nat) × Nat × Nat × (Nat → Option Nat)
def mI (μ : Mem) : Nat → Nat → Int32 := μ.1
def mL (μ : Mem) : Nat → Nat → Int64 := μ.2.1
def mP (μ : Mem) : Nat → Nat → Option Nat := μ.2.2.1
def aI (μ : Mem) : Nat → Nat → Nat → Int32 := μ.2.2.2.1
def aL (μ : Mem) : Nat → Nat → Nat → Int64 := μ.2.2.2.2.1
def aP (μ : Mem) : Nat → Nat → Nat → Option Nat := μ.2.2.2.2.2.1
def mK (μ : Mem) : Nat → Nat := μ.2.2.2.2.2.2.1
def mN (μ : Mem) : Nat → Nat := μ.2.2.2.2.2.2.2.1
def mX (μ : Mem) : Nat := μ.2.2.2.2.2.2.2.2.1
def mS (μ : Mem) : Nat := μ.2.2.2.2.2.2.2.2.2.1
def mT (μ : Mem) : Nat → Option Nat := μ.2.2.2.2.2.2.2.2.2.2
def up2 {α : Type} (m : Nat → Nat → α) (f a : Nat) (v : α) : Nat → Nat → α := fun g b => if g = f ∧ b = a then v else m g b
def up3 {α : Type} (m : Nat → Nat → Nat → α) (f a i : Nat) (v : α) : Nat → Nat → Nat → α := fun g b j => if g = f ∧ b = a ∧ j = i then v else m g b j
def sI (μ : Mem) (f a : Nat) (v : Int32) : Mem := (up2 (mI μ) f a v, mL μ, mP μ, aI μ, aL μ, aP μ, mK μ, mN μ, mX μ, mS μ, mT μ)
def sL (μ : Mem) (f a : Nat) (v : Int64) : Mem := (mI μ, up2 (mL μ) f a v, mP μ, aI μ, aL μ, aP μ, mK μ, mN μ, mX μ, mS μ, mT μ)
def sP (μ : Mem) (f a : Nat) (v : Option Nat) : Mem := (mI μ, mL μ, up2 (mP μ) f a v, aI μ, aL μ, aP μ, mK μ, mN μ, mX μ, mS μ, mT μ)
def tI (μ : Mem) (k a i : Nat) (v : Int32) : Mem := (mI μ, mL μ, mP μ, up3 (aI μ) k a i v, aL μ, aP μ, mK μ, mN μ, mX μ, mS μ, mT μ)
def tL (μ : Mem) (k a i : Nat) (v : Int64) : Mem := (mI μ, mL μ, mP μ, aI μ, up3 (aL μ) k a i v, aP μ, mK μ, mN μ, mX μ, mS μ, mT μ)
def tP (μ : Mem) (k a i : Nat) (v : Option Nat) : Mem := (mI μ, mL μ, mP μ, aI μ, aL μ, up3 (aP μ) k a i v, mK μ, mN μ, mX μ, mS μ, mT μ)
/-- a new object of class c (n slots) -/
def nO (c n : Nat) (μ : Mem) : Mem := (fun f b => if b = mX μ then 0 else mI μ f b, fun f b => if b = mX μ then 0 else mL μ f b, fun f b => if b = mX μ then none else mP μ f b, aI μ, aL μ, aP μ, fun b => if b = mX μ then c + 1 else mK μ b, mN μ, mX μ + 1, mS μ + n, mT μ)
/-- a new array of kind k with n places -/
def nA (k n : Nat) (μ : Mem) : Mem := (mI μ, mL μ, mP μ, fun g b i => if b = mX μ then 0 else aI μ g b i, fun g b i => if b = mX μ then 0 else aL μ g b i, fun g b i => if b = mX μ then none else aP μ g b i, fun b => if b = mX μ then k else mK μ b, fun b => if b = mX μ then n else mN μ b, mX μ + 1, mS μ + n, mT μ)
abbrev M (α : Type) : Type := Mem → Option (α × Mem)
def rt {α : Type} (x : α) : M α := fun μ => some (x, μ)
def fl {α : Type} : M α := fun _ => none
def bn {α β : Type} (x : M α) (f : α → M β) : M β := fun μ => match x μ with
  | none => none
  | some q => f q.1 q.2
/-- what must hold -/
def ck (b : Bool) : M Unit := fun μ => if b = true then some ((), μ) else none
def pRc (c : Nat) (r : Option Nat) : M Nat := fun μ => match r with
  | none => none
  | some a => if mK μ a = c + 1 then some (a, μ) else none
def pArr (k : Nat) (r : Option Nat) : M Nat := fun μ => match r with
  | none => none
  | some a => if mK μ a = k then some (a, μ) else none
def gI (c k : Nat) (r : Option Nat) : M Int32 := bn (pRc c r) fun a μ => some (mI μ (64 * c + k) a, μ)
def gLg (c k : Nat) (r : Option Nat) : M Int64 := bn (pRc c r) fun a μ => some (mL μ (64 * c + k) a, μ)
def gP (c k : Nat) (r : Option Nat) : M (Option Nat) := bn (pRc c r) fun a μ => some (mP μ (64 * c + k) a, μ)
def wI (c k : Nat) (r : Option Nat) (v : Int32) : M Unit := bn (pRc c r) fun a μ => some ((), sI μ (64 * c + k) a v)
def wZ (c k : Nat) (r : Option Nat) (v : Int32) : M Unit := bn (pRc c r) fun a μ => if v = 0 ∨ v = 1 then some ((), sI μ (64 * c + k) a v) else none
def wL (c k : Nat) (r : Option Nat) (v : Int64) : M Unit := bn (pRc c r) fun a μ => some ((), sL μ (64 * c + k) a v)
def wP (c k : Nat) (r : Option Nat) (v : Option Nat) : M Unit := bn (pRc c r) fun a μ => some ((), sP μ (64 * c + k) a v)
def newO (c n : Nat) : M (Option Nat) := fun μ => some (some (mX μ), nO c n μ)
def newA (k : Nat) (n : Int32) : M (Option Nat) := fun μ => if ¬ n < 0 ∧ n.toNatClampNeg ≤ 1000000 then some (some (mX μ), nA k n.toNatClampNeg μ) else none
def inA (i : Int32) (n : Nat) : Prop := ¬ (i < 0 ∨ n ≤ i.toNatClampNeg)
def lI (k : Nat) (r : Option Nat) (i : Int32) : M Int32 := bn (pArr k r) fun a μ => if ¬ (i < 0 ∨ mN μ a ≤ i.toNatClampNeg) then some (aI μ k a i.toNatClampNeg, μ) else none
def lL (k : Nat) (r : Option Nat) (i : Int32) : M Int64 := bn (pArr k r) fun a μ => if ¬ (i < 0 ∨ mN μ a ≤ i.toNatClampNeg) then some (aL μ k a i.toNatClampNeg, μ) else none
def lP (k : Nat) (r : Option Nat) (i : Int32) : M (Option Nat) := bn (pArr k r) fun a μ => if ¬ (i < 0 ∨ mN μ a ≤ i.toNatClampNeg) then some (aP μ k a i.toNatClampNeg, μ) else none
def stI (k : Nat) (r : Option Nat) (i v : Int32) : M Unit := bn (pArr k r) fun a μ => if ¬ (i < 0 ∨ mN μ a ≤ i.toNatClampNeg) then some ((), tI μ k a i.toNatClampNeg v) else none
def stZ (k : Nat) (r : Option Nat) (i v : Int32) : M Unit := bn (pArr k r) fun a μ => if ¬ (i < 0 ∨ mN μ a ≤ i.toNatClampNeg) ∧ vp_nar .boolean v = v then some ((), tI μ k a i.toNatClampNeg v) else none
def stC (k : Nat) (r : Option Nat) (i v : Int32) : M Unit := bn (pArr k r) fun a μ => if ¬ (i < 0 ∨ mN μ a ≤ i.toNatClampNeg) ∧ vp_nar .char v = v then some ((), tI μ k a i.toNatClampNeg v) else none
def stL (k : Nat) (r : Option Nat) (i : Int32) (v : Int64) : M Unit := bn (pArr k r) fun a μ => if ¬ (i < 0 ∨ mN μ a ≤ i.toNatClampNeg) then some ((), tL μ k a i.toNatClampNeg v) else none
/-- a reference into an array of references: the value is null, or an object of class c -/
def stP (k c : Nat) (r : Option Nat) (i : Int32) (v : Option Nat) : M Unit := bn (pArr k r) fun a μ => if ¬ (i < 0 ∨ mN μ a ≤ i.toNatClampNeg) ∧ (v = none ∨ mK μ (v.getD 0) = c + 1) then some ((), tP μ k a i.toNatClampNeg v) else none
/-- the length of any array -/
def len (r : Option Nat) : M Int32 := fun μ => if r = mT μ 0 then some (0, μ) else match r with
  | none => none
  | some a => if 64 ≤ mK μ a then some (Int32.ofNat (mN μ a), μ) else none
def cst (c : Nat) (r : Option Nat) : M Unit := fun μ => match r with
  | none => some ((), μ)
  | some a => if mK μ a = c + 1 then some ((), μ) else none
def dvI (x y : Int32) : M Int32 := fun μ => if y = 0 then none else some (x / y, μ)
def rmI (x y : Int32) : M Int32 := fun μ => if y = 0 then none else some (x - x / y * y, μ)
def rz (v : Int32) : M Int32 := fun μ => if v = 0 ∨ v = 1 then some (v, μ) else none
/-- what the cells hold -/
def fv (μ : Mem) (c a k : Nat) : Value := if fty c k = 1 then .long (mL μ (64 * c + k) a) else if fty c k = 2 then va_rf (mP μ (64 * c + k) a) else .int (mI μ (64 * c + k) a)
def ev (μ : Mem) (a j : Nat) : Value := if mK μ a % 8 = 1 then .long (aL μ (mK μ a) a j) else if 4 ≤ mK μ a % 8 then va_rf (aP μ (mK μ a) a j) else .int (aI μ (mK μ a) a j)
def atC (Γ : Gam) (μ : Mem) (a : Nat) (H : Heap) : Prop :=
  (∀ (c : Nat) (q : vw_C), mK μ a = c + 1 → vcl[c]? = some q → t_OB a ((gD Γ).1 c) q.2.2 ((gD Γ).2 c) H (fv μ c a)) ∧ (64 ≤ mK μ a → H[a]? = some (arrV (gA Γ (mK μ a % 8)) (mN μ a) (ev μ a)))
/-- the heap is what the memory says; kind 76: arrays that are no cells of ours and have no places -/
def Wd (Γ : Gam) (μ : Mem) (H : Heap) : Prop := H.size = mX μ ∧ mT μ = gT Γ ∧ ∀ a, mK μ a ≠ 0 → (a < H.size ∧ atC Γ μ a H) ∧ (mK μ a ≠ 76 → gB Γ ≤ a)
def tysA (f : Nat → ClassId) : List (ClassId × FieldType) := [(f 0, .int), (f 1, .long), (f 2, .boolean), (f 3, .char), (f 4, .object "java/lang/Object"), (f 5, .object "GrainPit$Month"), (f 6, .object "GrainPit$Settle"), (f 7, .byte)]
def nnw : Cond → Bool
  | .methodLinkNest .. => true
  | .castable .. => true
  | .declares .. => true
  | .arrayOver (.object _) => true
  | _ => false
def lw_nn : List Cond := lw_tbl.filter nnw
def kLn : List Nat := [79, 13, 79]
def kBy : List (List Int32) := [[108, 105, 109, 105, 116, 32, 102, 105, 114, 115, 116, 32, 107, 101, 101, 112, 32, 99, 97, 112, 32, 100, 105, 102, 102, 32, 102, 101, 101, 32, 100, 97, 121, 32, 109, 111, 110, 116, 104, 32, 112, 114, 105, 99, 101, 32, 108, 111, 116, 115, 32, 103, 114, 97, 100, 101, 32, 112, 108, 97, 99, 101, 32, 102, 114, 111, 109, 32, 105, 115, 32, 109, 105, 110, 32, 109, 97, 120, 32], [59, 63, 58, 60, 62, 61, 43, 45, 42, 47, 40, 41, 44], [108, 105, 109, 105, 116, 32, 102, 105, 114, 115, 116, 32, 107, 101, 101, 112, 32, 99, 97, 112, 32, 100, 105, 102, 102, 32, 102, 101, 101, 32, 102, 114, 111, 109, 32, 105, 115, 32, 109, 105, 110, 32, 109, 97, 120, 32, 100, 97, 121, 32, 109, 111, 110, 116, 104, 32, 112, 114, 105, 99, 101, 32, 108, 111, 116, 115, 32, 103, 114, 97, 100, 101, 32, 112, 108, 97, 99, 101, 32]]
/-- what is known of the outside: ArrayList's empty array, the class of Object[], two statics, the texts -/
def EX (Γ : Gam) (U : State) : Prop :=
  (va_Z "java/util/ArrayList" "DEFAULTCAPACITY_EMPTY_ELEMENTDATA" "[Ljava/lang/Object;" (va_rf (gT Γ 0)) (fun q => gB Γ ≤ q) U U.heap ∧ ∃ t, gT Γ 0 = some t ∧ va_T (.object "java/lang/Object") t 0 (fun _ => .null) (fun q => gB Γ ≤ q) U U.heap) ∧ (∃ mi, gT Γ 40 = some mi ∧ va_Mi "[Ljava/lang/Object;" mi U) ∧
  va_Z "java/lang/String" "COMPACT_STRINGS" "Z" (.int 1) (fun q => gB Γ ≤ q) U U.heap ∧ va_Z "jdk/internal/util/Preconditions" "SIOOBE_FORMATTER" "Ljava/util/function/BiFunction;" (va_rf (gT Γ 41)) (fun q => gB Γ ≤ q) U U.heap ∧
  (∃ aK aV : Nat → Nat, (∀ i, i < 3 → gT Γ (1 + i) = some (aK i) ∧ gT Γ (11 + i) = some (aV i)) ∧ vk_S 3 kLn kBy aK aV (fun q => gB Γ ≤ q) U U.heap ∧
    vk_R "GrainPit$Reader" 143 "limit first keep cap diff fee day month price lots grade place from is min max " (aK 0) U ∧ vk_R "GrainPit$Reader" 128 ";?:<>=+-*/()," (aK 1) U ∧ vk_R "GrainPitModel" 110 "limit first keep cap diff fee from is min max day month price lots grade place " (aK 2) U ∧ vk_R "GrainPitModel" 151 ";?:<>=+-*/()," (aK 1) U) ∧ gE Γ U
def KK (Γ : Gam) (U : State) : Prop := va_K (gD Γ) vcl (tysA (gA Γ)) U ∧ (∀ w ∈ lw_nn, va_Nw w U) ∧ EX Γ U
/-- what is known of the outside stays so -/
def Stab (Γ : Gam) : Prop := ∀ s U : State, gE Γ s → s.WarmedH U.vm → s.heap.size ≤ U.heap.size → (∀ q, q < s.heap.size → ¬ gB Γ ≤ q → U.heap[q]? = s.heap[q]?) → gE Γ U
def Ctx (Γ : Gam) (y : Mth) (p : Program) (s : State) (m : MethodId) (args : Array Value) (meth : Method) (c : Code) : Prop :=
  p.tables.exec = Jvm.exec ∧ c.code = y.2.1 ∧ meth.sig.returnType = y.2.2.2 ∧ c.maxLocals = y.2.2.1 ∧ s.vm.findClass y.1.cls = some m.cls ∧ (∀ w ∈ lw_g, w.before args s = true) ∧ meth.locks = false ∧ meth.name = y.1.name ∧ KK Γ s ∧ Stab Γ ∧ gB Γ ≤ s.heap.size ∧ (Cond.code y.1 y.2.1 y.2.2.1 y.2.2.2 ∈ lw_g → c.exceptionTable.toList = []) ∧ ∀ hh, Cond.codeWith y.1 y.2.1 y.2.2.1 y.2.2.2 hh ∈ lw_g → c.exceptionTable.toList = tableOf hh
def rmo (d c s : Nat) : Room := { frames := d, cells := c, slots := s, locals := 64 * d }
def wsy (y : Mth) : List Cond := Cond.code y.1 y.2.1 y.2.2.1 y.2.2.2 :: lw_g
def Qo (Γ : Gam) (v : Option Value) (μ' : Mem) : Array Value → State → Outcome → State → Prop := fun _ st o t => o = .returned v ∧ Wd Γ μ' t.heap ∧ va_F (fun q => gB Γ ≤ q) st t
/-- what is to hold at a method's end -/
abbrev Rv (α : Type) : Type := α → Mem → List Frame → Array Value → State → Nat → Nat → State → Prop
/-- it has returned -/
def qo {α : Type} (Γ : Gam) (rv : α → Option Value) : Rv α := fun x μ' below args s mc ms => MQ below (Qo Γ (rv x) μ') args s mc ms (fun q => gB Γ ≤ q)
def Ok {α : Type} (Γ : Gam) (y : Mth) (d : Nat) (rv : Rv α) (pc : Nat) (lv : List (Nat × Value)) (st : List Value) (F : M α) : Prop :=
  ∀ (μ : Mem) (x : α) (μ' : Mem), F μ = some (x, μ') → (mX μ ≤ mX μ' ∧ mS μ ≤ mS μ') ∧
    ∀ (p : Program) (e : Env) (s : State) (m : MethodId) (args : Array Value) (below : List Frame) (meth : Method) (c : Code) (x0 s0 : Nat) (H : Heap) (locs : List Loc) (ls : Array Slot),
      Ctx Γ y p s m args meth c → x0 ≤ mX μ → s0 ≤ mS μ → va_S (fun q => gB Γ ≤ q) s.heap H locs → Wd Γ μ H → lv_has ls y.2.2.1 lv →
      W p (gL Γ) e (rmo d (mX μ' - x0) (mS μ' - s0)) s m args below meth c H locs (mX μ - x0) (mS μ - s0) (rv x μ' below args s (mX μ' - x0) (mS μ' - s0)) (F0 m pc ls st)
def Ct {α : Type} (Γ : Gam) (y : Mth) (d : Nat) (rv : α → Option Value) (av : List Value) (G : M α) : Prop :=
  ∀ (μ : Mem) (x : α) (μ' : Mem), G μ = some (x, μ') → (mX μ ≤ mX μ' ∧ mS μ ≤ mS μ') ∧
    (Stab Γ → Met (gL Γ) y.1 (wsy y) (rmo d (mX μ' - mX μ) (mS μ' - mS μ)) (va_Pc av (fun U => Wd Γ μ U.heap ∧ KK Γ U ∧ gB Γ ≤ U.heap.size)) (Qo Γ (rv x) μ') (mX μ' - mX μ) (mS μ' - mS μ) (fun q => gB Γ ≤ q))
def vI (x : Int32) : Option Value := some (.int x)
def vL (x : Int64) : Option Value := some (.long x)
def vP (x : Option Nat) : Option Value := some (va_rf x)
def vV (_ : Unit) : Option Value := none
theorem lw_g_sub : ∀ w ∈ lw_g, w ∈ lw_tbl := fun w h => (List.mem_filter.mp h).1
theorem lw_g_good : ∀ w ∈ lw_g, goodWord w = true := fun w h => (List.mem_filter.mp h).2
theorem gin {w : Cond} (i : Nat) (h : lw_tbl[i]? = some w) (hg : goodWord w = true) : w ∈ lw_g := List.mem_filter.mpr ⟨List.mem_of_getElem? h, hg⟩
theorem nin {w : Cond} (i : Nat) (h : lw_tbl[i]? = some w) (hg : nnw w = true) : w ∈ lw_nn := List.mem_filter.mpr ⟨List.mem_of_getElem? h, hg⟩
theorem bn_some {α β : Type} {x : M α} {f : α → M β} {μ : Mem} {q : β × Mem} (h : bn x f μ = some q) : ∃ a μ1, x μ = some (a, μ1) ∧ f a μ1 = some q := by
  unfold bn at h
  cases hx : x μ with
  | none => rw [hx] at h; cases h
  | some w => rw [hx] at h; exact ⟨w.1, w.2, rfl, h⟩
/-- the general step: an instruction that leaves the heap alone -/
theorem ok_of {α : Type} {Γ : Gam} {y : Mth} {d : Nat} {rv : Rv α} {pc pc' : Nat} {lv lv' : List (Nat × Value)} {st st' : List Value} {F : M α}
    (hW : ∀ {p : Program} {l : Launch} {e : Env} {R : Room} {s : State} {m : MethodId} {args : Array Value} {below : List Frame} {meth : Method} {c : Code} {H : Heap} {locs : List Loc} {cells slots : Nat} {Q : State → Prop} {ls : Array Slot},
      Ctx Γ y p s m args meth c → lv_has ls y.2.2.1 lv → (∀ ls', lv_has ls' y.2.2.1 lv' → W p l e R s m args below meth c H locs cells slots Q (F0 m pc' ls' st')) → W p l e R s m args below meth c H locs cells slots Q (F0 m pc ls st))
    (k : Ok Γ y d rv pc' lv' st' F) : Ok Γ y d rv pc lv st F := by
  intro μ x μ' h
  refine ⟨(k μ x μ' h).1, ?_⟩
  intro p e s m args below meth c x0 s0 H locs ls hc h1 h2 hS hD hl
  exact hW hc hl fun ls' hl' => (k μ x μ' h).2 p e s m args below meth c x0 s0 H locs ls' hc h1 h2 hS hD hl'
theorem mI_sI (μ : Mem) (f a : Nat) (v : Int32) : mI (sI μ f a v) = up2 (mI μ) f a v := rfl
theorem mL_sI (μ : Mem) (f a : Nat) (v : Int32) : mL (sI μ f a v) = mL μ := rfl
theorem mP_sI (μ : Mem) (f a : Nat) (v : Int32) : mP (sI μ f a v) = mP μ := rfl
theorem aI_sI (μ : Mem) (f a : Nat) (v : Int32) : aI (sI μ f a v) = aI μ := rfl
theorem aL_sI (μ : Mem) (f a : Nat) (v : Int32) : aL (sI μ f a v) = aL μ := rfl
theorem aP_sI (μ : Mem) (f a : Nat) (v : Int32) : aP (sI μ f a v) = aP μ := rfl
theorem mK_sI (μ : Mem) (f a : Nat) (v : Int32) : mK (sI μ f a v) = mK μ := rfl
theorem mN_sI (μ : Mem) (f a : Nat) (v : Int32) : mN (sI μ f a v) = mN μ := rfl
theorem mX_sI (μ : Mem) (f a : Nat) (v : Int32) : mX (sI μ f a v) = mX μ := rfl
theorem mS_sI (μ : Mem) (f a : Nat) (v : Int32) : mS (sI μ f a v) = mS μ := rfl
theorem mI_sL (μ : Mem) (f a : Nat) (v : Int64) : mI (sL μ f a v) = mI μ := rfl
theorem mL_sL (μ : Mem) (f a : Nat) (v : Int64) : mL (sL μ f a v) = up2 (mL μ) f a v := rfl
theorem mP_sL (μ : Mem) (f a : Nat) (v : Int64) : mP (sL μ f a v) = mP μ := rfl
theorem aI_sL (μ : Mem) (f a : Nat) (v : Int64) : aI (sL μ f a v) = aI μ := rfl
theorem aL_sL (μ : Mem) (f a : Nat) (v : Int64) : aL (sL μ f a v) = aL μ := rfl
theorem aP_sL (μ : Mem) (f a : Nat) (v : Int64) : aP (sL μ f a v) = aP μ := rfl
theorem mK_sL (μ : Mem) (f a : Nat) (v : Int64) : mK (sL μ f a v) = mK μ := rfl
theorem mN_sL (μ : Mem) (f a : Nat) (v : Int64) : mN (sL μ f a v) = mN μ := rfl
theorem mX_sL (μ : Mem) (f a : Nat) (v : Int64) : mX (sL μ f a v) = mX μ := rfl
theorem mS_sL (μ : Mem) (f a : Nat) (v : Int64) : mS (sL μ f a v) = mS μ := rfl
theorem mI_sP (μ : Mem) (f a : Nat) (v : Option Nat) : mI (sP μ f a v) = mI μ := rfl
theorem mL_sP (μ : Mem) (f a : Nat) (v : Option Nat) : mL (sP μ f a v) = mL μ := rfl
theorem mP_sP (μ : Mem) (f a : Nat) (v : Option Nat) : mP (sP μ f a v) = up2 (mP μ) f a v := rfl
theorem aI_sP (μ : Mem) (f a : Nat) (v : Option Nat) : aI (sP μ f a v) = aI μ := rfl
theorem aL_sP (μ : Mem) (f a : Nat) (v : Option Nat) : aL (sP μ f a v) = aL μ := rfl
theorem aP_sP (μ : Mem) (f a : Nat) (v : Option Nat) : aP (sP μ f a v) = aP μ := rfl
theorem mK_sP (μ : Mem) (f a : Nat) (v : Option Nat) : mK (sP μ f a v) = mK μ := rfl
theorem mN_sP (μ : Mem) (f a : Nat) (v : Option Nat) : mN (sP μ f a v) = mN μ := rfl
theorem mX_sP (μ : Mem) (f a : Nat) (v : Option Nat) : mX (sP μ f a v) = mX μ := rfl
theorem mS_sP (μ : Mem) (f a : Nat) (v : Option Nat) : mS (sP μ f a v) = mS μ := rfl
theorem mI_tI (μ : Mem) (k a i : Nat) (v : Int32) : mI (tI μ k a i v) = mI μ := rfl
theorem mL_tI (μ : Mem) (k a i : Nat) (v : Int32) : mL (tI μ k a i v) = mL μ := rfl
theorem mP_tI (μ : Mem) (k a i : Nat) (v : Int32) : mP (tI μ k a i v) = mP μ := rfl
theorem aI_tI (μ : Mem) (k a i : Nat) (v : Int32) : aI (tI μ k a i v) = up3 (aI μ) k a i v := rfl
theorem aL_tI (μ : Mem) (k a i : Nat) (v : Int32) : aL (tI μ k a i v) = aL μ := rfl
theorem aP_tI (μ : Mem) (k a i : Nat) (v : Int32) : aP (tI μ k a i v) = aP μ := rfl
theorem mK_tI (μ : Mem) (k a i : Nat) (v : Int32) : mK (tI μ k a i v) = mK μ := rfl
theorem mN_tI (μ : Mem) (k a i : Nat) (v : Int32) : mN (tI μ k a i v) = mN μ := rfl
theorem mX_tI (μ : Mem) (k a i : Nat) (v : Int32) : mX (tI μ k a i v) = mX μ := rfl
theorem mS_tI (μ : Mem) (k a i : Nat) (v : Int32) : mS (tI μ k a i v) = mS μ := rfl
theorem mI_tL (μ : Mem) (k a i : Nat) (v : Int64) : mI (tL μ k a i v) = mI μ := rfl
theorem mL_tL (μ : Mem) (k a i : Nat) (v : Int64) : mL (tL μ k a i v) = mL μ := rfl
theorem mP_tL (μ : Mem) (k a i : Nat) (v : Int64) : mP (tL μ k a i v) = mP μ := rfl
theorem aI_tL (μ : Mem) (k a i : Nat) (v : Int64) : aI (tL μ k a i v) = aI μ := rfl
theorem aL_tL (μ : Mem) (k a i : Nat) (v : Int64) : aL (tL μ k a i v) = up3 (aL μ) k a i v := rfl
theorem aP_tL (μ : Mem) (k a i : Nat) (v : Int64) : aP (tL μ k a i v) = aP μ := rfl
theorem mK_tL (μ : Mem) (k a i : Nat) (v : Int64) : mK (tL μ k a i v) = mK μ := rfl
theorem mN_tL (μ : Mem) (k a i : Nat) (v : Int64) : mN (tL μ k a i v) = mN μ := rfl
theorem mX_tL (μ : Mem) (k a i : Nat) (v : Int64) : mX (tL μ k a i v) = mX μ := rfl
theorem mS_tL (μ : Mem) (k a i : Nat) (v : Int64) : mS (tL μ k a i v) = mS μ := rfl
theorem mI_tP (μ : Mem) (k a i : Nat) (v : Option Nat) : mI (tP μ k a i v) = mI μ := rfl
theorem mL_tP (μ : Mem) (k a i : Nat) (v : Option Nat) : mL (tP μ k a i v) = mL μ := rfl
theorem mP_tP (μ : Mem) (k a i : Nat) (v : Option Nat) : mP (tP μ k a i v) = mP μ := rfl
theorem aI_tP (μ : Mem) (k a i : Nat) (v : Option Nat) : aI (tP μ k a i v) = aI μ := rfl
theorem aL_tP (μ : Mem) (k a i : Nat) (v : Option Nat) : aL (tP μ k a i v) = aL μ := rfl
theorem aP_tP (μ : Mem) (k a i : Nat) (v : Option Nat) : aP (tP μ k a i v) = up3 (aP μ) k a i v := rfl
theorem mK_tP (μ : Mem) (k a i : Nat) (v : Option Nat) : mK (tP μ k a i v) = mK μ := rfl
theorem mN_tP (μ : Mem) (k a i : Nat) (v : Option Nat) : mN (tP μ k a i v) = mN μ := rfl
theorem mX_tP (μ : Mem) (k a i : Nat) (v : Option Nat) : mX (tP μ k a i v) = mX μ := rfl
theorem mS_tP (μ : Mem) (k a i : Nat) (v : Option Nat) : mS (tP μ k a i v) = mS μ := rfl
theorem mI_nO (μ : Mem) (c n : Nat) : mI (nO c n μ) = (fun f b => if b = mX μ then 0 else mI μ f b) := rfl
theorem mL_nO (μ : Mem) (c n : Nat) : mL (nO c n μ) = (fun f b => if b = mX μ then 0 else mL μ f b) := rfl
theorem mP_nO (μ : Mem) (c n : Nat) : mP (nO c n μ) = (fun f b => if b = mX μ then none else mP μ f b) := rfl
theorem aI_nO (μ : Mem) (c n : Nat) : aI (nO c n μ) = (aI μ) := rfl
theorem aL_nO (μ : Mem) (c n : Nat) : aL (nO c n μ) = (aL μ) := rfl
theorem aP_nO (μ : Mem) (c n : Nat) : aP (nO c n μ) = (aP μ) := rfl
theorem mK_nO (μ : Mem) (c n : Nat) : mK (nO c n μ) = (fun b => if b = mX μ then c + 1 else mK μ b) := rfl
theorem mN_nO (μ : Mem) (c n : Nat) : mN (nO c n μ) = (mN μ) := rfl
theorem mX_nO (μ : Mem) (c n : Nat) : mX (nO c n μ) = (mX μ + 1) := rfl
theorem mS_nO (μ : Mem) (c n : Nat) : mS (nO c n μ) = (mS μ + n) := rfl
theorem mI_nA (μ : Mem) (c n : Nat) : mI (nA c n μ) = (mI μ) := rfl
theorem mL_nA (μ : Mem) (c n : Nat) : mL (nA c n μ) = (mL μ) := rfl
theorem mP_nA (μ : Mem) (c n : Nat) : mP (nA c n μ) = (mP μ) := rfl
theorem aI_nA (μ : Mem) (c n : Nat) : aI (nA c n μ) = (fun g b i => if b = mX μ then 0 else aI μ g b i) := rfl
theorem aL_nA (μ : Mem) (c n : Nat) : aL (nA c n μ) = (fun g b i => if b = mX μ then 0 else aL μ g b i) := rfl
theorem aP_nA (μ : Mem) (c n : Nat) : aP (nA c n μ) = (fun g b i => if b = mX μ then none else aP μ g b i) := rfl
theorem mK_nA (μ : Mem) (c n : Nat) : mK (nA c n μ) = (fun b => if b = mX μ then c else mK μ b) := rfl
theorem mN_nA (μ : Mem) (c n : Nat) : mN (nA c n μ) = (fun b => if b = mX μ then n else mN μ b) := rfl
theorem mX_nA (μ : Mem) (c n : Nat) : mX (nA c n μ) = (mX μ + 1) := rfl
theorem mS_nA (μ : Mem) (c n : Nat) : mS (nA c n μ) = (mS μ + n) := rfl
theorem mT_sI (μ : Mem) (f a : Nat) (v : Int32) : mT (sI μ f a v) = mT μ := rfl
theorem mT_sL (μ : Mem) (f a : Nat) (v : Int64) : mT (sL μ f a v) = mT μ := rfl
theorem mT_sP (μ : Mem) (f a : Nat) (v : Option Nat) : mT (sP μ f a v) = mT μ := rfl
theorem mT_tI (μ : Mem) (k a i : Nat) (v : Int32) : mT (tI μ k a i v) = mT μ := rfl
theorem mT_tL (μ : Mem) (k a i : Nat) (v : Int64) : mT (tL μ k a i v) = mT μ := rfl
theorem mT_tP (μ : Mem) (k a i : Nat) (v : Option Nat) : mT (tP μ k a i v) = mT μ := rfl
theorem mT_nO (μ : Mem) (c n : Nat) : mT (nO c n μ) = mT μ := rfl
theorem mT_nA (μ : Mem) (c n : Nat) : mT (nA c n μ) = mT μ := rfl
