theorem ok_iconst {α : Type} {Γ : Gam} {y : Mth} {d : Nat} {rv : Rv α} {pc : Nat} {lv : List (Nat × Value)} {st : List Value} {F : M α} {n : Int} {v : Int32} (hd : decode y.2.1 pc = .ok (.iconst n, 1)) (hv : Int32.ofInt n = v) (k : Ok Γ y d rv (pc + 1) lv (.int v :: st) F) : Ok Γ y d rv pc lv st F :=
  ok_of (fun hc hl kk => lv_iconst hc.1 hc.2.1 hd hv (kk _ hl)) k
theorem ok_bipush {α : Type} {Γ : Gam} {y : Mth} {d : Nat} {rv : Rv α} {pc : Nat} {lv : List (Nat × Value)} {st : List Value} {F : M α} {n : Int} {v : Int32} (hd : decode y.2.1 pc = .ok (.bipush n, 2)) (hv : (Int8.ofInt n).toInt32 = v) (k : Ok Γ y d rv (pc + 2) lv (.int v :: st) F) : Ok Γ y d rv pc lv st F :=
  ok_of (fun hc hl kk => lv_bipush hc.1 hc.2.1 hd hv (kk _ hl)) k
theorem ok_sipush {α : Type} {Γ : Gam} {y : Mth} {d : Nat} {rv : Rv α} {pc : Nat} {lv : List (Nat × Value)} {st : List Value} {F : M α} {n : Int} {v : Int32} (hd : decode y.2.1 pc = .ok (.sipush n, 3)) (hv : (Int16.ofInt n).toInt32 = v) (k : Ok Γ y d rv (pc + 3) lv (.int v :: st) F) : Ok Γ y d rv pc lv st F :=
  ok_of (fun hc hl kk => lv_sipush hc.1 hc.2.1 hd hv (kk _ hl)) k
theorem ok_lconst {α : Type} {Γ : Gam} {y : Mth} {d : Nat} {rv : Rv α} {pc : Nat} {lv : List (Nat × Value)} {st : List Value} {F : M α} {n : Fin 2} {v : Int64} (hd : decode y.2.1 pc = .ok (.lconst n, 1)) (hv : Int64.ofNat (n : Nat) = v) (k : Ok Γ y d rv (pc + 1) lv (.long v :: st) F) : Ok Γ y d rv pc lv st F :=
  ok_of (fun hc hl kk => lv_lconst hc.1 hc.2.1 hd hv (kk _ hl)) k
theorem ok_null {α : Type} {Γ : Gam} {y : Mth} {d : Nat} {rv : Rv α} {pc : Nat} {lv : List (Nat × Value)} {st : List Value} {F : M α}  (hd : decode y.2.1 pc = .ok (.aconst_null, 1)) (k : Ok Γ y d rv (pc + 1) lv (va_rf none :: st) F) : Ok Γ y d rv pc lv st F :=
  ok_of (fun hc hl kk => lv_null hc.1 hc.2.1 hd (kk _ hl)) k
theorem ok_iload_n {α : Type} {Γ : Gam} {y : Mth} {d : Nat} {rv : Rv α} {pc : Nat} {lv : List (Nat × Value)} {st : List Value} {F : M α} {k4 : Fin 4} {x : Int32} (hd : decode y.2.1 pc = .ok (.iload_n k4, 1)) (i : Nat) (hk : lv[i]? = some ((k4 : Nat), .int x)) (k : Ok Γ y d rv (pc + 1) lv (.int x :: st) F) : Ok Γ y d rv pc lv st F :=
  ok_of (fun hc hl kk => lv_iload_n hc.1 hc.2.1 hd rfl (lv_at hl i hk) (kk _ hl)) k
theorem ok_iload {α : Type} {Γ : Gam} {y : Mth} {d : Nat} {rv : Rv α} {pc : Nat} {lv : List (Nat × Value)} {st : List Value} {F : M α} {n : Nat} {x : Int32} (hd : decode y.2.1 pc = .ok (.iload n, 2)) (i : Nat) (hk : lv[i]? = some (n, .int x)) (k : Ok Γ y d rv (pc + 2) lv (.int x :: st) F) : Ok Γ y d rv pc lv st F :=
  ok_of (fun hc hl kk => lv_iload hc.1 hc.2.1 hd (lv_at hl i hk) (kk _ hl)) k
theorem ok_lload_n {α : Type} {Γ : Gam} {y : Mth} {d : Nat} {rv : Rv α} {pc : Nat} {lv : List (Nat × Value)} {st : List Value} {F : M α} {k4 : Fin 4} {x : Int64} (hd : decode y.2.1 pc = .ok (.lload_n k4, 1)) (i : Nat) (hk : lv[i]? = some ((k4 : Nat), .long x)) (k : Ok Γ y d rv (pc + 1) lv (.long x :: st) F) : Ok Γ y d rv pc lv st F :=
  ok_of (fun hc hl kk => lv_lload_n hc.1 hc.2.1 hd rfl (lv_at hl i hk) (kk _ hl)) k
theorem ok_lload {α : Type} {Γ : Gam} {y : Mth} {d : Nat} {rv : Rv α} {pc : Nat} {lv : List (Nat × Value)} {st : List Value} {F : M α} {n : Nat} {x : Int64} (hd : decode y.2.1 pc = .ok (.lload n, 2)) (i : Nat) (hk : lv[i]? = some (n, .long x)) (k : Ok Γ y d rv (pc + 2) lv (.long x :: st) F) : Ok Γ y d rv pc lv st F :=
  ok_of (fun hc hl kk => lv_lload hc.1 hc.2.1 hd (lv_at hl i hk) (kk _ hl)) k
theorem ok_aload_n {α : Type} {Γ : Gam} {y : Mth} {d : Nat} {rv : Rv α} {pc : Nat} {lv : List (Nat × Value)} {st : List Value} {F : M α} {k4 : Fin 4} {r : Option Nat} (hd : decode y.2.1 pc = .ok (.aload_n k4, 1)) (i : Nat) (hk : lv[i]? = some ((k4 : Nat), va_rf r)) (k : Ok Γ y d rv (pc + 1) lv (va_rf r :: st) F) : Ok Γ y d rv pc lv st F := by
  refine ok_of (fun hc hl kk => ?_) k
  cases r with
  | none => exact lv_aload_nN hc.1 hc.2.1 hd rfl (lv_at hl i hk) (kk _ hl)
  | some a => exact lv_aload_n hc.1 hc.2.1 hd rfl (lv_at hl i hk) (kk _ hl)
theorem ok_aload {α : Type} {Γ : Gam} {y : Mth} {d : Nat} {rv : Rv α} {pc : Nat} {lv : List (Nat × Value)} {st : List Value} {F : M α} {n : Nat} {r : Option Nat} (hd : decode y.2.1 pc = .ok (.aload n, 2)) (i : Nat) (hk : lv[i]? = some (n, va_rf r)) (k : Ok Γ y d rv (pc + 2) lv (va_rf r :: st) F) : Ok Γ y d rv pc lv st F := by
  refine ok_of (fun hc hl kk => ?_) k
  cases r with
  | none => exact lv_aloadN hc.1 hc.2.1 hd (lv_at hl i hk) (kk _ hl)
  | some a => exact lv_aload hc.1 hc.2.1 hd (lv_at hl i hk) (kk _ hl)
theorem ok_istore_n {α : Type} {Γ : Gam} {y : Mth} {d : Nat} {rv : Rv α} {pc : Nat} {lv : List (Nat × Value)} {st : List Value} {F : M α} {k4 : Fin 4} {x : Int32} {lv' : List (Nat × Value)} (hd : decode y.2.1 pc = .ok (.istore_n k4, 1)) (hn : (k4 : Nat) < y.2.2.1) (hl' : ((k4 : Nat), Value.int x) :: lv.filter (fun q => !(q.1 == (k4 : Nat)) && !(q.1 + 1 == (k4 : Nat) && q.2.category == 2)) = lv') (k : Ok Γ y d rv (pc + 1) lv' st F) : Ok Γ y d rv pc lv (.int x :: st) F :=
  ok_of (fun hc hl kk => lv_istore_n hc.1 hc.2.1 hd rfl hl hn hl' kk) k
theorem ok_istore {α : Type} {Γ : Gam} {y : Mth} {d : Nat} {rv : Rv α} {pc : Nat} {lv : List (Nat × Value)} {st : List Value} {F : M α} {n : Nat} {x : Int32} {lv' : List (Nat × Value)} (hd : decode y.2.1 pc = .ok (.istore n, 2)) (hn : n < y.2.2.1) (hl' : (n, Value.int x) :: lv.filter (fun q => !(q.1 == n) && !(q.1 + 1 == n && q.2.category == 2)) = lv') (k : Ok Γ y d rv (pc + 2) lv' st F) : Ok Γ y d rv pc lv (.int x :: st) F :=
  ok_of (fun hc hl kk => lv_istore hc.1 hc.2.1 hd hl hn hl' kk) k
theorem ok_lstore_n {α : Type} {Γ : Gam} {y : Mth} {d : Nat} {rv : Rv α} {pc : Nat} {lv : List (Nat × Value)} {st : List Value} {F : M α} {k4 : Fin 4} {x : Int64} {lv' : List (Nat × Value)} (hd : decode y.2.1 pc = .ok (.lstore_n k4, 1)) (hn : (k4 : Nat) + 1 < y.2.2.1) (hl' : ((k4 : Nat), Value.long x) :: lv.filter (fun q => !(q.1 == (k4 : Nat)) && (!(q.1 == (k4 : Nat) + 1) && !(q.1 + 1 == (k4 : Nat) && q.2.category == 2))) = lv') (k : Ok Γ y d rv (pc + 1) lv' st F) : Ok Γ y d rv pc lv (.long x :: st) F :=
  ok_of (fun hc hl kk => lv_lstore_n hc.1 hc.2.1 hd rfl hl hn hl' kk) k
theorem ok_lstore {α : Type} {Γ : Gam} {y : Mth} {d : Nat} {rv : Rv α} {pc : Nat} {lv : List (Nat × Value)} {st : List Value} {F : M α} {n : Nat} {x : Int64} {lv' : List (Nat × Value)} (hd : decode y.2.1 pc = .ok (.lstore n, 2)) (hn : n + 1 < y.2.2.1) (hl' : (n, Value.long x) :: lv.filter (fun q => !(q.1 == n) && (!(q.1 == n + 1) && !(q.1 + 1 == n && q.2.category == 2))) = lv') (k : Ok Γ y d rv (pc + 2) lv' st F) : Ok Γ y d rv pc lv (.long x :: st) F :=
  ok_of (fun hc hl kk => lv_lstore hc.1 hc.2.1 hd hl hn hl' kk) k
theorem ok_astore_n {α : Type} {Γ : Gam} {y : Mth} {d : Nat} {rv : Rv α} {pc : Nat} {lv : List (Nat × Value)} {st : List Value} {F : M α} {k4 : Fin 4} {r : Option Nat} {lv' : List (Nat × Value)} (hd : decode y.2.1 pc = .ok (.astore_n k4, 1)) (hn : (k4 : Nat) < y.2.2.1) (hl' : ((k4 : Nat), va_rf r) :: lv.filter (fun q => !(q.1 == (k4 : Nat)) && !(q.1 + 1 == (k4 : Nat) && q.2.category == 2)) = lv') (k : Ok Γ y d rv (pc + 1) lv' st F) : Ok Γ y d rv pc lv (va_rf r :: st) F := by
  refine ok_of (fun hc hl kk => ?_) k
  cases r with
  | none => exact lv_astore_nN hc.1 hc.2.1 hd rfl hl hn hl' kk
  | some a => exact lv_astore_n hc.1 hc.2.1 hd rfl hl hn hl' kk
theorem ok_astore {α : Type} {Γ : Gam} {y : Mth} {d : Nat} {rv : Rv α} {pc : Nat} {lv : List (Nat × Value)} {st : List Value} {F : M α} {n : Nat} {r : Option Nat} {lv' : List (Nat × Value)} (hd : decode y.2.1 pc = .ok (.astore n, 2)) (hn : n < y.2.2.1) (hl' : (n, va_rf r) :: lv.filter (fun q => !(q.1 == n) && !(q.1 + 1 == n && q.2.category == 2)) = lv') (k : Ok Γ y d rv (pc + 2) lv' st F) : Ok Γ y d rv pc lv (va_rf r :: st) F := by
  refine ok_of (fun hc hl kk => ?_) k
  cases r with
  | none => exact lv_astoreN hc.1 hc.2.1 hd hl hn hl' kk
  | some a => exact lv_astore hc.1 hc.2.1 hd hl hn hl' kk
theorem ok_iinc {α : Type} {Γ : Gam} {y : Mth} {d : Nat} {rv : Rv α} {pc : Nat} {lv : List (Nat × Value)} {st : List Value} {F : M α} {n : Nat} {z : Int} {x v : Int32} {lv' : List (Nat × Value)} (hd : decode y.2.1 pc = .ok (.iinc n z, 3)) (i : Nat) (hk : lv[i]? = some (n, .int x)) (hv : x + Int32.ofInt z = v) (hn : n < y.2.2.1) (hl' : (n, Value.int v) :: lv.filter (fun q => !(q.1 == n) && !(q.1 + 1 == n && q.2.category == 2)) = lv') (k : Ok Γ y d rv (pc + 3) lv' st F) : Ok Γ y d rv pc lv st F :=
  ok_of (fun hc hl kk => lv_iinc hc.1 hc.2.1 hd hl hk hv hn hl' kk) k
theorem ok_iadd {α : Type} {Γ : Gam} {y : Mth} {d : Nat} {rv : Rv α} {pc : Nat} {lv : List (Nat × Value)} {st : List Value} {F : M α} {x z : Int32} (hd : decode y.2.1 pc = .ok (.iadd, 1)) (k : Ok Γ y d rv (pc + 1) lv (.int (x + z) :: st) F) : Ok Γ y d rv pc lv (.int z :: .int x :: st) F :=
  ok_of (fun hc hl kk => lv_iadd hc.1 hc.2.1 hd (kk _ hl)) k
theorem ok_isub {α : Type} {Γ : Gam} {y : Mth} {d : Nat} {rv : Rv α} {pc : Nat} {lv : List (Nat × Value)} {st : List Value} {F : M α} {x z : Int32} (hd : decode y.2.1 pc = .ok (.isub, 1)) (k : Ok Γ y d rv (pc + 1) lv (.int (x - z) :: st) F) : Ok Γ y d rv pc lv (.int z :: .int x :: st) F :=
  ok_of (fun hc hl kk => lv_isub hc.1 hc.2.1 hd (kk _ hl)) k
theorem ok_imul {α : Type} {Γ : Gam} {y : Mth} {d : Nat} {rv : Rv α} {pc : Nat} {lv : List (Nat × Value)} {st : List Value} {F : M α} {x z : Int32} (hd : decode y.2.1 pc = .ok (.imul, 1)) (k : Ok Γ y d rv (pc + 1) lv (.int (x * z) :: st) F) : Ok Γ y d rv pc lv (.int z :: .int x :: st) F :=
  ok_of (fun hc hl kk => lv_imul hc.1 hc.2.1 hd (kk _ hl)) k
theorem ok_iand {α : Type} {Γ : Gam} {y : Mth} {d : Nat} {rv : Rv α} {pc : Nat} {lv : List (Nat × Value)} {st : List Value} {F : M α} {x z : Int32} (hd : decode y.2.1 pc = .ok (.iand, 1)) (k : Ok Γ y d rv (pc + 1) lv (.int (x &&& z) :: st) F) : Ok Γ y d rv pc lv (.int z :: .int x :: st) F :=
  ok_of (fun hc hl kk => lv_iand hc.1 hc.2.1 hd (kk _ hl)) k
theorem ok_ior {α : Type} {Γ : Gam} {y : Mth} {d : Nat} {rv : Rv α} {pc : Nat} {lv : List (Nat × Value)} {st : List Value} {F : M α} {x z : Int32} (hd : decode y.2.1 pc = .ok (.ior, 1)) (k : Ok Γ y d rv (pc + 1) lv (.int (x ||| z) :: st) F) : Ok Γ y d rv pc lv (.int z :: .int x :: st) F :=
  ok_of (fun hc hl kk => lv_ior hc.1 hc.2.1 hd (kk _ hl)) k
theorem ok_ixor {α : Type} {Γ : Gam} {y : Mth} {d : Nat} {rv : Rv α} {pc : Nat} {lv : List (Nat × Value)} {st : List Value} {F : M α} {x z : Int32} (hd : decode y.2.1 pc = .ok (.ixor, 1)) (k : Ok Γ y d rv (pc + 1) lv (.int (x ^^^ z) :: st) F) : Ok Γ y d rv pc lv (.int z :: .int x :: st) F :=
  ok_of (fun hc hl kk => lv_ixor hc.1 hc.2.1 hd (kk _ hl)) k
theorem ok_ishl {α : Type} {Γ : Gam} {y : Mth} {d : Nat} {rv : Rv α} {pc : Nat} {lv : List (Nat × Value)} {st : List Value} {F : M α} {x z : Int32} (hd : decode y.2.1 pc = .ok (.ishl, 1)) (k : Ok Γ y d rv (pc + 1) lv (.int (x <<< (z &&& 31)) :: st) F) : Ok Γ y d rv pc lv (.int z :: .int x :: st) F :=
  ok_of (fun hc hl kk => lv_ishl hc.1 hc.2.1 hd (kk _ hl)) k
theorem ok_ishr {α : Type} {Γ : Gam} {y : Mth} {d : Nat} {rv : Rv α} {pc : Nat} {lv : List (Nat × Value)} {st : List Value} {F : M α} {x z : Int32} (hd : decode y.2.1 pc = .ok (.ishr, 1)) (k : Ok Γ y d rv (pc + 1) lv (.int (x >>> (z &&& 31)) :: st) F) : Ok Γ y d rv pc lv (.int z :: .int x :: st) F :=
  ok_of (fun hc hl kk => lv_ishr hc.1 hc.2.1 hd (kk _ hl)) k
theorem ok_ladd {α : Type} {Γ : Gam} {y : Mth} {d : Nat} {rv : Rv α} {pc : Nat} {lv : List (Nat × Value)} {st : List Value} {F : M α} {x z : Int64} (hd : decode y.2.1 pc = .ok (.ladd, 1)) (k : Ok Γ y d rv (pc + 1) lv (.long (x + z) :: st) F) : Ok Γ y d rv pc lv (.long z :: .long x :: st) F :=
  ok_of (fun hc hl kk => lv_ladd hc.1 hc.2.1 hd (kk _ hl)) k
theorem ok_lsub {α : Type} {Γ : Gam} {y : Mth} {d : Nat} {rv : Rv α} {pc : Nat} {lv : List (Nat × Value)} {st : List Value} {F : M α} {x z : Int64} (hd : decode y.2.1 pc = .ok (.lsub, 1)) (k : Ok Γ y d rv (pc + 1) lv (.long (x - z) :: st) F) : Ok Γ y d rv pc lv (.long z :: .long x :: st) F :=
  ok_of (fun hc hl kk => lv_lsub hc.1 hc.2.1 hd (kk _ hl)) k
theorem ok_lmul {α : Type} {Γ : Gam} {y : Mth} {d : Nat} {rv : Rv α} {pc : Nat} {lv : List (Nat × Value)} {st : List Value} {F : M α} {x z : Int64} (hd : decode y.2.1 pc = .ok (.lmul, 1)) (k : Ok Γ y d rv (pc + 1) lv (.long (x * z) :: st) F) : Ok Γ y d rv pc lv (.long z :: .long x :: st) F :=
  ok_of (fun hc hl kk => lv_lmul hc.1 hc.2.1 hd (kk _ hl)) k
theorem ok_ineg {α : Type} {Γ : Gam} {y : Mth} {d : Nat} {rv : Rv α} {pc : Nat} {lv : List (Nat × Value)} {st : List Value} {F : M α} {x : Int32} (hd : decode y.2.1 pc = .ok (.ineg, 1)) (k : Ok Γ y d rv (pc + 1) lv (.int (-x) :: st) F) : Ok Γ y d rv pc lv (.int x :: st) F :=
  ok_of (fun hc hl kk => lv_ineg hc.1 hc.2.1 hd (kk _ hl)) k
theorem ok_i2l {α : Type} {Γ : Gam} {y : Mth} {d : Nat} {rv : Rv α} {pc : Nat} {lv : List (Nat × Value)} {st : List Value} {F : M α} {x : Int32} (hd : decode y.2.1 pc = .ok (.i2l, 1)) (k : Ok Γ y d rv (pc + 1) lv (.long x.toInt64 :: st) F) : Ok Γ y d rv pc lv (.int x :: st) F :=
  ok_of (fun hc hl kk => lv_i2l hc.1 hc.2.1 hd rfl (kk _ hl)) k
theorem ok_i2c {α : Type} {Γ : Gam} {y : Mth} {d : Nat} {rv : Rv α} {pc : Nat} {lv : List (Nat × Value)} {st : List Value} {F : M α} {x : Int32} (hd : decode y.2.1 pc = .ok (.i2c, 1)) (k : Ok Γ y d rv (pc + 1) lv (.int (x.toUInt32 % 65536).toInt32 :: st) F) : Ok Γ y d rv pc lv (.int x :: st) F :=
  ok_of (fun hc hl kk => lv_i2c hc.1 hc.2.1 hd rfl (kk _ hl)) k
theorem ok_dup {α : Type} {Γ : Gam} {y : Mth} {d : Nat} {rv : Rv α} {pc : Nat} {lv : List (Nat × Value)} {st : List Value} {F : M α} {v : Value} (hd : decode y.2.1 pc = .ok (.dup, 1)) (hv : v.category = 1) (k : Ok Γ y d rv (pc + 1) lv (v :: v :: st) F) : Ok Γ y d rv pc lv (v :: st) F :=
  ok_of (fun hc hl kk => lv_dup hc.1 hc.2.1 hd hv (kk _ hl)) k
theorem ok_pop {α : Type} {Γ : Gam} {y : Mth} {d : Nat} {rv : Rv α} {pc : Nat} {lv : List (Nat × Value)} {st : List Value} {F : M α} {v : Value} (hd : decode y.2.1 pc = .ok (.pop, 1)) (hv : v.category = 1) (k : Ok Γ y d rv (pc + 1) lv st F) : Ok Γ y d rv pc lv (v :: st) F :=
  ok_of (fun hc hl kk => lv_pop hc.1 hc.2.1 hd hv (kk _ hl)) k
theorem ok_dup_x1 {α : Type} {Γ : Gam} {y : Mth} {d : Nat} {rv : Rv α} {pc : Nat} {lv : List (Nat × Value)} {st : List Value} {F : M α} {v w : Value} (hd : decode y.2.1 pc = .ok (.dup_x1, 1)) (hv : v.category = 1) (hw : w.category = 1) (k : Ok Γ y d rv (pc + 1) lv (v :: w :: v :: st) F) : Ok Γ y d rv pc lv (v :: w :: st) F :=
  ok_of (fun hc hl kk => lv_dup_x1 hc.1 hc.2.1 hd hv hw (kk _ hl)) k
theorem ok_dup2_11 {α : Type} {Γ : Gam} {y : Mth} {d : Nat} {rv : Rv α} {pc : Nat} {lv : List (Nat × Value)} {st : List Value} {F : M α} {v w : Value} (hd : decode y.2.1 pc = .ok (.dup2, 1)) (hv : v.category = 1) (hw : w.category = 1) (k : Ok Γ y d rv (pc + 1) lv (v :: w :: v :: w :: st) F) : Ok Γ y d rv pc lv (v :: w :: st) F :=
  ok_of (fun hc hl kk => lv_dup2_11 hc.1 hc.2.1 hd hv hw (kk _ hl)) k
theorem ok_goto {α : Type} {Γ : Gam} {y : Mth} {d : Nat} {rv : Rv α} {pc : Nat} {lv : List (Nat × Value)} {st : List Value} {F : M α} {off : Int} {tgt : Nat} (hd : decode y.2.1 pc = .ok (.goto off, 3)) (ht : (pc : Int) + off = (tgt : Int)) (k : Ok Γ y d rv tgt lv st F) : Ok Γ y d rv pc lv st F :=
  ok_of (fun hc hl kk => lv_goto hc.1 hc.2.1 hd ht (kk _ hl)) k
theorem ok_ldc {α : Type} {Γ : Gam} {y : Mth} {d : Nat} {rv : Rv α} {pc : Nat} {lv : List (Nat × Value)} {st : List Value} {F : M α} {n : Nat} {v : Int32} (hd : decode y.2.1 pc = .ok (.ldc n, 2)) (hw : Cond.constant y.1.cls n v ∈ lw_g) (k : Ok Γ y d rv (pc + 2) lv (.int v :: st) F) : Ok Γ y d rv pc lv st F :=
  ok_of (fun hc hl kk => lv_ldc hc.1 hc.2.1 hc.2.2.2.2.1 (hc.2.2.2.2.2.1 _ hw) hd (kk _ hl)) k
theorem ok_ldcw {α : Type} {Γ : Gam} {y : Mth} {d : Nat} {rv : Rv α} {pc : Nat} {lv : List (Nat × Value)} {st : List Value} {F : M α} {n : Nat} {v : Int32} (hd : decode y.2.1 pc = .ok (.ldc_w n, 3)) (hw : Cond.constant y.1.cls n v ∈ lw_g) (k : Ok Γ y d rv (pc + 3) lv (.int v :: st) F) : Ok Γ y d rv pc lv st F :=
  ok_of (fun hc hl kk => lv_ldcw hc.1 hc.2.1 hc.2.2.2.2.1 (hc.2.2.2.2.2.1 _ hw) hd (kk _ hl)) k
theorem ok_ldc2 {α : Type} {Γ : Gam} {y : Mth} {d : Nat} {rv : Rv α} {pc : Nat} {lv : List (Nat × Value)} {st : List Value} {F : M α} {n : Nat} {v : Int64} (hd : decode y.2.1 pc = .ok (.ldc2_w n, 3)) (hw : Cond.constantLong y.1.cls n v ∈ lw_g) (k : Ok Γ y d rv (pc + 3) lv (.long v :: st) F) : Ok Γ y d rv pc lv st F :=
  ok_of (fun hc hl kk => lv_ldc2 hc.1 hc.2.1 hc.2.2.2.2.1 (hc.2.2.2.2.2.1 _ hw) hd (kk _ hl)) k
theorem ok_sub {α : Type} {Γ : Gam} {y : Mth} {d : Nat} {rv : Rv α} {pc : Nat} {lv : List (Nat × Value)} {st : List Value} {F : M α} {lv' : List (Nat × Value)} (ks : List Nat) (hl' : lv_pick lv ks = lv') (k : Ok Γ y d rv pc lv' st F) : Ok Γ y d rv pc lv st F :=
  ok_of (fun _ hl kk => kk _ (lv_sub hl ks hl')) k
-- BRANCHES
