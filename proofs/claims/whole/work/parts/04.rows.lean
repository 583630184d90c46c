/-! the rows once more, with the whole standing of a walk hidden behind one word (eX), the goal a function G of cells, slots, place, locals, stack, world -/
abbrev eR (fr lo mc ms : Nat) : Room := { frames := fr, cells := mc, slots := ms, locals := lo }
def eX (l : Launch) (R : Room) (G : Nat → Nat → Nat → List (Nat × Value) → List Value → va_W → Prop) (cc : ByteArray) (nL : Nat) (own : String) (D : eD) (T : Nat → ClassId) (ini : Prop) : Prop :=
  ∃ (p : Program) (e : Env) (s : State) (m : MethodId) (args : Array Value) (below : List Frame) (meth : Method) (c : Code) (Q : State → Prop) (A : Nat → Prop) (H0 : Heap) (ret : Option FieldType), eC p s m args meth c cc nL own ret D T A H0 ∧ (ini → meth.name = "<init>") ∧ G = fun cells slots pc lv st ws => eG p l e R s m args below meth c Q nL D A H0 cells slots pc lv st ws
section XR
variable {l : Launch} {R : Room} {G : Nat → Nat → Nat → List (Nat × Value) → List Value → va_W → Prop} {cc : ByteArray} {nL : Nat} {own : String} {D : eD} {T : Nat → ClassId} {ini : Prop} {cells slots : Nat}
variable {pc : Nat} {lv lv' : List (Nat × Value)} {st st0 : List Value} {ws ws' ws2 wc wr : va_W} {y : MethodName} {b : ByteArray} {n k fr lo mc ms index a ci : Nat} {r : Option FieldType} {av : List Value} {fs : List Value} {host : String}
theorem x_eq (X : eX l R G cc nL own D T ini) {lv2 : List (Nat × Value)} {st2 : List Value} {ws2 : va_W} (h1 : lv = lv2) (h2 : st = st2) (h3 : ws = ws2) (kk : G cells slots pc lv2 (st2) ws2) : G cells slots pc lv (st) ws := by
  obtain ⟨p, e, s, m, args, below, meth, c, Q, A, H0, ret, X, hini0, rfl⟩ := X
  exact g_eq h1 h2 h3 kk
theorem x_sub (X : eX l R G cc nL own D T ini) {lv2 : List (Nat × Value)} (is : List Nat) (h : is.filterMap (fun k => lv[k]?) = lv2) (kk : G cells slots pc lv2 (st) ws) : G cells slots pc lv (st) ws := by
  obtain ⟨p, e, s, m, args, below, meth, c, Q, A, H0, ret, X, hini0, rfl⟩ := X
  exact g_sub is h kk
theorem x_iload_n (X : eX l R G cc nL own D T ini) {j : Fin 4} {x : Int32} (hd : decode cc pc = .ok (.iload_n j, 1)) (k : Nat) (hk : lv[k]? = some ((j : Nat), .int x)) (kk : G cells slots (pc + 1) lv (.int x :: st) ws) : G cells slots pc lv (st) ws := by
  obtain ⟨p, e, s, m, args, below, meth, c, Q, A, H0, ret, X, hini0, rfl⟩ := X
  exact g_iload_n X hd k hk kk
theorem x_iload (X : eX l R G cc nL own D T ini) {i : Nat} {x : Int32} (hd : decode cc pc = .ok (.iload i, 2)) (k : Nat) (hk : lv[k]? = some (i, .int x)) (kk : G cells slots (pc + 2) lv (.int x :: st) ws) : G cells slots pc lv (st) ws := by
  obtain ⟨p, e, s, m, args, below, meth, c, Q, A, H0, ret, X, hini0, rfl⟩ := X
  exact g_iload X hd k hk kk
theorem x_istore_n (X : eX l R G cc nL own D T ini) {j : Fin 4} {x : Int32} (hd : decode cc pc = .ok (.istore_n j, 1)) (hn : (j : Nat) < nL) (hq : ((j : Nat), Value.int x) :: lv.filter (fun q => !(q.1 == (j : Nat)) && !(q.1 + 1 == (j : Nat) && q.2.category == 2)) = lv') (kk : G cells slots (pc + 1) lv' (st) ws) : G cells slots pc lv (.int x :: st) ws := by
  obtain ⟨p, e, s, m, args, below, meth, c, Q, A, H0, ret, X, hini0, rfl⟩ := X
  exact g_istore_n X hd hn hq kk
theorem x_istore (X : eX l R G cc nL own D T ini) {i : Nat} {x : Int32} (hd : decode cc pc = .ok (.istore i, 2)) (hn : i < nL) (hq : (i, Value.int x) :: lv.filter (fun q => !(q.1 == i) && !(q.1 + 1 == i && q.2.category == 2)) = lv') (kk : G cells slots (pc + 2) lv' (st) ws) : G cells slots pc lv (.int x :: st) ws := by
  obtain ⟨p, e, s, m, args, below, meth, c, Q, A, H0, ret, X, hini0, rfl⟩ := X
  exact g_istore X hd hn hq kk
theorem x_lload_n (X : eX l R G cc nL own D T ini) {j : Fin 4} {x : Int64} (hd : decode cc pc = .ok (.lload_n j, 1)) (k : Nat) (hk : lv[k]? = some ((j : Nat), .long x)) (kk : G cells slots (pc + 1) lv (.long x :: st) ws) : G cells slots pc lv (st) ws := by
  obtain ⟨p, e, s, m, args, below, meth, c, Q, A, H0, ret, X, hini0, rfl⟩ := X
  exact g_lload_n X hd k hk kk
theorem x_lload (X : eX l R G cc nL own D T ini) {i : Nat} {x : Int64} (hd : decode cc pc = .ok (.lload i, 2)) (k : Nat) (hk : lv[k]? = some (i, .long x)) (kk : G cells slots (pc + 2) lv (.long x :: st) ws) : G cells slots pc lv (st) ws := by
  obtain ⟨p, e, s, m, args, below, meth, c, Q, A, H0, ret, X, hini0, rfl⟩ := X
  exact g_lload X hd k hk kk
theorem x_lstore_n (X : eX l R G cc nL own D T ini) {j : Fin 4} {x : Int64} (hd : decode cc pc = .ok (.lstore_n j, 1)) (hn : (j : Nat) + 1 < nL) (hq : ((j : Nat), Value.long x) :: lv.filter (fun q => !(q.1 == (j : Nat)) && (!(q.1 == (j : Nat) + 1) && !(q.1 + 1 == (j : Nat) && q.2.category == 2))) = lv') (kk : G cells slots (pc + 1) lv' (st) ws) : G cells slots pc lv (.long x :: st) ws := by
  obtain ⟨p, e, s, m, args, below, meth, c, Q, A, H0, ret, X, hini0, rfl⟩ := X
  exact g_lstore_n X hd hn hq kk
theorem x_lstore (X : eX l R G cc nL own D T ini) {i : Nat} {x : Int64} (hd : decode cc pc = .ok (.lstore i, 2)) (hn : i + 1 < nL) (hq : (i, Value.long x) :: lv.filter (fun q => !(q.1 == i) && (!(q.1 == i + 1) && !(q.1 + 1 == i && q.2.category == 2))) = lv') (kk : G cells slots (pc + 2) lv' (st) ws) : G cells slots pc lv (.long x :: st) ws := by
  obtain ⟨p, e, s, m, args, below, meth, c, Q, A, H0, ret, X, hini0, rfl⟩ := X
  exact g_lstore X hd hn hq kk
theorem x_aload_n (X : eX l R G cc nL own D T ini) {j : Fin 4} {x : Nat} (hd : decode cc pc = .ok (.aload_n j, 1)) (k : Nat) (hk : lv[k]? = some ((j : Nat), .ref x)) (kk : G cells slots (pc + 1) lv (.ref x :: st) ws) : G cells slots pc lv (st) ws := by
  obtain ⟨p, e, s, m, args, below, meth, c, Q, A, H0, ret, X, hini0, rfl⟩ := X
  exact g_aload_n X hd k hk kk
theorem x_aload (X : eX l R G cc nL own D T ini) {i : Nat} {x : Nat} (hd : decode cc pc = .ok (.aload i, 2)) (k : Nat) (hk : lv[k]? = some (i, .ref x)) (kk : G cells slots (pc + 2) lv (.ref x :: st) ws) : G cells slots pc lv (st) ws := by
  obtain ⟨p, e, s, m, args, below, meth, c, Q, A, H0, ret, X, hini0, rfl⟩ := X
  exact g_aload X hd k hk kk
theorem x_astore_n (X : eX l R G cc nL own D T ini) {j : Fin 4} {x : Nat} (hd : decode cc pc = .ok (.astore_n j, 1)) (hn : (j : Nat) < nL) (hq : ((j : Nat), Value.ref x) :: lv.filter (fun q => !(q.1 == (j : Nat)) && !(q.1 + 1 == (j : Nat) && q.2.category == 2)) = lv') (kk : G cells slots (pc + 1) lv' (st) ws) : G cells slots pc lv (.ref x :: st) ws := by
  obtain ⟨p, e, s, m, args, below, meth, c, Q, A, H0, ret, X, hini0, rfl⟩ := X
  exact g_astore_n X hd hn hq kk
theorem x_astore (X : eX l R G cc nL own D T ini) {i : Nat} {x : Nat} (hd : decode cc pc = .ok (.astore i, 2)) (hn : i < nL) (hq : (i, Value.ref x) :: lv.filter (fun q => !(q.1 == i) && !(q.1 + 1 == i && q.2.category == 2)) = lv') (kk : G cells slots (pc + 2) lv' (st) ws) : G cells slots pc lv (.ref x :: st) ws := by
  obtain ⟨p, e, s, m, args, below, meth, c, Q, A, H0, ret, X, hini0, rfl⟩ := X
  exact g_astore X hd hn hq kk
theorem x_iinc (X : eX l R G cc nL own D T ini) {i : Nat} {n : Int} {x v : Int32} (hd : decode cc pc = .ok (.iinc i n, 3)) (k : Nat) (hk : lv[k]? = some (i, .int x)) (hv : x + Int32.ofInt n = v) (hn : i < nL) (hq : (i, Value.int v) :: lv.filter (fun q => !(q.1 == i) && !(q.1 + 1 == i && q.2.category == 2)) = lv') (kk : G cells slots (pc + 3) lv' (st) ws) : G cells slots pc lv (st) ws := by
  obtain ⟨p, e, s, m, args, below, meth, c, Q, A, H0, ret, X, hini0, rfl⟩ := X
  exact g_iinc X hd k hk hv hn hq kk
theorem x_iconst (X : eX l R G cc nL own D T ini) {n : Int} {v : Int32} (hd : decode cc pc = .ok (.iconst n, 1)) (hv : Int32.ofInt n = v) (kk : G cells slots (pc + 1) lv (.int v :: st) ws) : G cells slots pc lv (st) ws := by
  obtain ⟨p, e, s, m, args, below, meth, c, Q, A, H0, ret, X, hini0, rfl⟩ := X
  exact g_iconst X hd hv kk
theorem x_bipush (X : eX l R G cc nL own D T ini) {n : Int} {v : Int32} (hd : decode cc pc = .ok (.bipush n, 2)) (hv : (Int8.ofInt n).toInt32 = v) (kk : G cells slots (pc + 2) lv (.int v :: st) ws) : G cells slots pc lv (st) ws := by
  obtain ⟨p, e, s, m, args, below, meth, c, Q, A, H0, ret, X, hini0, rfl⟩ := X
  exact g_bipush X hd hv kk
theorem x_sipush (X : eX l R G cc nL own D T ini) {n : Int} {v : Int32} (hd : decode cc pc = .ok (.sipush n, 3)) (hv : (Int16.ofInt n).toInt32 = v) (kk : G cells slots (pc + 3) lv (.int v :: st) ws) : G cells slots pc lv (st) ws := by
  obtain ⟨p, e, s, m, args, below, meth, c, Q, A, H0, ret, X, hini0, rfl⟩ := X
  exact g_sipush X hd hv kk
theorem x_lconst (X : eX l R G cc nL own D T ini) {n : Fin 2} {v : Int64} (hd : decode cc pc = .ok (.lconst n, 1)) (hv : Int64.ofNat (n : Nat) = v) (kk : G cells slots (pc + 1) lv (.long v :: st) ws) : G cells slots pc lv (st) ws := by
  obtain ⟨p, e, s, m, args, below, meth, c, Q, A, H0, ret, X, hini0, rfl⟩ := X
  exact g_lconst X hd hv kk
theorem x_ldc (X : eX l R G cc nL own D T ini) {index : Nat} {v : Int32} (hc : Jvm.Cond.constant own index v ∈ lw_good) (hd : decode cc pc = .ok (.ldc index, 2)) (kk : G cells slots (pc + 2) lv (.int v :: st) ws) : G cells slots pc lv (st) ws := by
  obtain ⟨p, e, s, m, args, below, meth, c, Q, A, H0, ret, X, hini0, rfl⟩ := X
  exact g_ldc X hc hd kk
theorem x_ldcw (X : eX l R G cc nL own D T ini) {index : Nat} {v : Int32} (hc : Jvm.Cond.constant own index v ∈ lw_good) (hd : decode cc pc = .ok (.ldc_w index, 3)) (kk : G cells slots (pc + 3) lv (.int v :: st) ws) : G cells slots pc lv (st) ws := by
  obtain ⟨p, e, s, m, args, below, meth, c, Q, A, H0, ret, X, hini0, rfl⟩ := X
  exact g_ldcw X hc hd kk
theorem x_ldc2 (X : eX l R G cc nL own D T ini) {index : Nat} {v : Int64} (hc : Jvm.Cond.constantLong own index v ∈ lw_good) (hd : decode cc pc = .ok (.ldc2_w index, 3)) (kk : G cells slots (pc + 3) lv (.long v :: st) ws) : G cells slots pc lv (st) ws := by
  obtain ⟨p, e, s, m, args, below, meth, c, Q, A, H0, ret, X, hini0, rfl⟩ := X
  exact g_ldc2 X hc hd kk
theorem x_iadd (X : eX l R G cc nL own D T ini) {x y : Int32} (hd : decode cc pc = .ok (.iadd, 1)) (kk : G cells slots (pc + 1) lv (.int (x + y) :: st) ws) : G cells slots pc lv (.int y :: .int x :: st) ws := by
  obtain ⟨p, e, s, m, args, below, meth, c, Q, A, H0, ret, X, hini0, rfl⟩ := X
  exact g_iadd X hd kk
theorem x_isub (X : eX l R G cc nL own D T ini) {x y : Int32} (hd : decode cc pc = .ok (.isub, 1)) (kk : G cells slots (pc + 1) lv (.int (x - y) :: st) ws) : G cells slots pc lv (.int y :: .int x :: st) ws := by
  obtain ⟨p, e, s, m, args, below, meth, c, Q, A, H0, ret, X, hini0, rfl⟩ := X
  exact g_isub X hd kk
theorem x_imul (X : eX l R G cc nL own D T ini) {x y : Int32} (hd : decode cc pc = .ok (.imul, 1)) (kk : G cells slots (pc + 1) lv (.int (x * y) :: st) ws) : G cells slots pc lv (.int y :: .int x :: st) ws := by
  obtain ⟨p, e, s, m, args, below, meth, c, Q, A, H0, ret, X, hini0, rfl⟩ := X
  exact g_imul X hd kk
theorem x_iand (X : eX l R G cc nL own D T ini) {x y : Int32} (hd : decode cc pc = .ok (.iand, 1)) (kk : G cells slots (pc + 1) lv (.int (x &&& y) :: st) ws) : G cells slots pc lv (.int y :: .int x :: st) ws := by
  obtain ⟨p, e, s, m, args, below, meth, c, Q, A, H0, ret, X, hini0, rfl⟩ := X
  exact g_iand X hd kk
theorem x_ior (X : eX l R G cc nL own D T ini) {x y : Int32} (hd : decode cc pc = .ok (.ior, 1)) (kk : G cells slots (pc + 1) lv (.int (x ||| y) :: st) ws) : G cells slots pc lv (.int y :: .int x :: st) ws := by
  obtain ⟨p, e, s, m, args, below, meth, c, Q, A, H0, ret, X, hini0, rfl⟩ := X
  exact g_ior X hd kk
theorem x_ixor (X : eX l R G cc nL own D T ini) {x y : Int32} (hd : decode cc pc = .ok (.ixor, 1)) (kk : G cells slots (pc + 1) lv (.int (x ^^^ y) :: st) ws) : G cells slots pc lv (.int y :: .int x :: st) ws := by
  obtain ⟨p, e, s, m, args, below, meth, c, Q, A, H0, ret, X, hini0, rfl⟩ := X
  exact g_ixor X hd kk
theorem x_ishl (X : eX l R G cc nL own D T ini) {x y : Int32} (hd : decode cc pc = .ok (.ishl, 1)) (kk : G cells slots (pc + 1) lv (.int (x <<< (y &&& 31)) :: st) ws) : G cells slots pc lv (.int y :: .int x :: st) ws := by
  obtain ⟨p, e, s, m, args, below, meth, c, Q, A, H0, ret, X, hini0, rfl⟩ := X
  exact g_ishl X hd kk
theorem x_ishr (X : eX l R G cc nL own D T ini) {x y : Int32} (hd : decode cc pc = .ok (.ishr, 1)) (kk : G cells slots (pc + 1) lv (.int (x >>> (y &&& 31)) :: st) ws) : G cells slots pc lv (.int y :: .int x :: st) ws := by
  obtain ⟨p, e, s, m, args, below, meth, c, Q, A, H0, ret, X, hini0, rfl⟩ := X
  exact g_ishr X hd kk
theorem x_idiv (X : eX l R G cc nL own D T ini) {x y : Int32} (hd : decode cc pc = .ok (.idiv, 1)) (hne : ¬ y = 0) (kk : G cells slots (pc + 1) lv (.int (x / y) :: st) ws) : G cells slots pc lv (.int y :: .int x :: st) ws := by
  obtain ⟨p, e, s, m, args, below, meth, c, Q, A, H0, ret, X, hini0, rfl⟩ := X
  exact g_idiv X hd hne kk
theorem x_irem (X : eX l R G cc nL own D T ini) {x y : Int32} (hd : decode cc pc = .ok (.irem, 1)) (hne : ¬ y = 0) (kk : G cells slots (pc + 1) lv (.int (x - x / y * y) :: st) ws) : G cells slots pc lv (.int y :: .int x :: st) ws := by
  obtain ⟨p, e, s, m, args, below, meth, c, Q, A, H0, ret, X, hini0, rfl⟩ := X
  exact g_irem X hd hne kk
theorem x_ldiv (X : eX l R G cc nL own D T ini) {x y : Int64} (hd : decode cc pc = .ok (.ldiv, 1)) (hne : ¬ y = 0) (kk : G cells slots (pc + 1) lv (.long (x / y) :: st) ws) : G cells slots pc lv (.long y :: .long x :: st) ws := by
  obtain ⟨p, e, s, m, args, below, meth, c, Q, A, H0, ret, X, hini0, rfl⟩ := X
  exact g_ldiv X hd hne kk
theorem x_ladd (X : eX l R G cc nL own D T ini) {x y : Int64} (hd : decode cc pc = .ok (.ladd, 1)) (kk : G cells slots (pc + 1) lv (.long (x + y) :: st) ws) : G cells slots pc lv (.long y :: .long x :: st) ws := by
  obtain ⟨p, e, s, m, args, below, meth, c, Q, A, H0, ret, X, hini0, rfl⟩ := X
  exact g_ladd X hd kk
theorem x_lsub (X : eX l R G cc nL own D T ini) {x y : Int64} (hd : decode cc pc = .ok (.lsub, 1)) (kk : G cells slots (pc + 1) lv (.long (x - y) :: st) ws) : G cells slots pc lv (.long y :: .long x :: st) ws := by
  obtain ⟨p, e, s, m, args, below, meth, c, Q, A, H0, ret, X, hini0, rfl⟩ := X
  exact g_lsub X hd kk
theorem x_lmul (X : eX l R G cc nL own D T ini) {x y : Int64} (hd : decode cc pc = .ok (.lmul, 1)) (kk : G cells slots (pc + 1) lv (.long (x * y) :: st) ws) : G cells slots pc lv (.long y :: .long x :: st) ws := by
  obtain ⟨p, e, s, m, args, below, meth, c, Q, A, H0, ret, X, hini0, rfl⟩ := X
  exact g_lmul X hd kk
theorem x_land (X : eX l R G cc nL own D T ini) {x y : Int64} (hd : decode cc pc = .ok (.land, 1)) (kk : G cells slots (pc + 1) lv (.long (x &&& y) :: st) ws) : G cells slots pc lv (.long y :: .long x :: st) ws := by
  obtain ⟨p, e, s, m, args, below, meth, c, Q, A, H0, ret, X, hini0, rfl⟩ := X
  exact g_land X hd kk
theorem x_lor (X : eX l R G cc nL own D T ini) {x y : Int64} (hd : decode cc pc = .ok (.lor, 1)) (kk : G cells slots (pc + 1) lv (.long (x ||| y) :: st) ws) : G cells slots pc lv (.long y :: .long x :: st) ws := by
  obtain ⟨p, e, s, m, args, below, meth, c, Q, A, H0, ret, X, hini0, rfl⟩ := X
  exact g_lor X hd kk
theorem x_lxor (X : eX l R G cc nL own D T ini) {x y : Int64} (hd : decode cc pc = .ok (.lxor, 1)) (kk : G cells slots (pc + 1) lv (.long (x ^^^ y) :: st) ws) : G cells slots pc lv (.long y :: .long x :: st) ws := by
  obtain ⟨p, e, s, m, args, below, meth, c, Q, A, H0, ret, X, hini0, rfl⟩ := X
  exact g_lxor X hd kk
theorem x_iushr (X : eX l R G cc nL own D T ini) {x y : Int32} (hd : decode cc pc = .ok (.iushr, 1)) (kk : G cells slots (pc + 1) lv (.int (x.toUInt32 >>> (y.toUInt32 &&& Int32.toUInt32 31)).toInt32 :: st) ws) : G cells slots pc lv (.int y :: .int x :: st) ws := by
  obtain ⟨p, e, s, m, args, below, meth, c, Q, A, H0, ret, X, hini0, rfl⟩ := X
  exact g_iushr X hd kk
theorem x_i2l (X : eX l R G cc nL own D T ini) {x : Int32} (hd : decode cc pc = .ok (.i2l, 1)) (kk : G cells slots (pc + 1) lv (.long x.toInt64 :: st) ws) : G cells slots pc lv (.int x :: st) ws := by
  obtain ⟨p, e, s, m, args, below, meth, c, Q, A, H0, ret, X, hini0, rfl⟩ := X
  exact g_i2l X hd kk
theorem x_l2i (X : eX l R G cc nL own D T ini) {x : Int64} (hd : decode cc pc = .ok (.l2i, 1)) (kk : G cells slots (pc + 1) lv (.int x.toInt32 :: st) ws) : G cells slots pc lv (.long x :: st) ws := by
  obtain ⟨p, e, s, m, args, below, meth, c, Q, A, H0, ret, X, hini0, rfl⟩ := X
  exact g_l2i X hd kk
theorem x_i2b (X : eX l R G cc nL own D T ini) {x : Int32} (hd : decode cc pc = .ok (.i2b, 1)) (kk : G cells slots (pc + 1) lv (.int x.toInt8.toInt32 :: st) ws) : G cells slots pc lv (.int x :: st) ws := by
  obtain ⟨p, e, s, m, args, below, meth, c, Q, A, H0, ret, X, hini0, rfl⟩ := X
  exact g_i2b X hd kk
theorem x_lshl (X : eX l R G cc nL own D T ini) {x : Int64} {y : Int32} (hd : decode cc pc = .ok (.lshl, 1)) (kk : G cells slots (pc + 1) lv (.long (x <<< (y.toInt64 &&& 63)) :: st) ws) : G cells slots pc lv (.int y :: .long x :: st) ws := by
  obtain ⟨p, e, s, m, args, below, meth, c, Q, A, H0, ret, X, hini0, rfl⟩ := X
  exact g_lshl X hd kk
theorem x_lshr (X : eX l R G cc nL own D T ini) {x : Int64} {y : Int32} (hd : decode cc pc = .ok (.lshr, 1)) (kk : G cells slots (pc + 1) lv (.long (x >>> (y.toInt64 &&& 63)) :: st) ws) : G cells slots pc lv (.int y :: .long x :: st) ws := by
  obtain ⟨p, e, s, m, args, below, meth, c, Q, A, H0, ret, X, hini0, rfl⟩ := X
  exact g_lshr X hd kk
theorem x_lcmp (X : eX l R G cc nL own D T ini) {x y : Int64} (hd : decode cc pc = .ok (.lcmp, 1)) (kk : G cells slots (pc + 1) lv (.int (lg_cmp x y) :: st) ws) : G cells slots pc lv (.long y :: .long x :: st) ws := by
  obtain ⟨p, e, s, m, args, below, meth, c, Q, A, H0, ret, X, hini0, rfl⟩ := X
  exact g_lcmp X hd kk
theorem x_dup (X : eX l R G cc nL own D T ini) {va : Value} (hd : decode cc pc = .ok (.dup, 1)) (hva : va.category = 1) (kk : G cells slots (pc + 1) lv (va :: va :: st) ws) : G cells slots pc lv (va :: st) ws := by
  obtain ⟨p, e, s, m, args, below, meth, c, Q, A, H0, ret, X, hini0, rfl⟩ := X
  exact g_dup X hd hva kk
theorem x_pop (X : eX l R G cc nL own D T ini) {va : Value} (hd : decode cc pc = .ok (.pop, 1)) (hva : va.category = 1) (kk : G cells slots (pc + 1) lv (st) ws) : G cells slots pc lv (va :: st) ws := by
  obtain ⟨p, e, s, m, args, below, meth, c, Q, A, H0, ret, X, hini0, rfl⟩ := X
  exact g_pop X hd hva kk
theorem x_dup2 (X : eX l R G cc nL own D T ini) {va vb : Value} (hd : decode cc pc = .ok (.dup2, 1)) (hva : va.category = 1) (hvb : vb.category = 1) (kk : G cells slots (pc + 1) lv (va :: vb :: va :: vb :: st) ws) : G cells slots pc lv (va :: vb :: st) ws := by
  obtain ⟨p, e, s, m, args, below, meth, c, Q, A, H0, ret, X, hini0, rfl⟩ := X
  exact g_dup2 X hd hva hvb kk
theorem x_if_eq (X : eX l R G cc nL own D T ini) {x : Int32} {off : Int} {tgt : Nat} (hd : decode cc pc = .ok (.ifCond .eq off, 3)) (ht : (pc : Int) + off = (tgt : Int)) (kt : x = 0 → G cells slots tgt lv (st) ws) (kf : ¬ x = 0 → G cells slots (pc + 3) lv (st) ws) : G cells slots pc lv (.int x :: st) ws := by
  obtain ⟨p, e, s, m, args, below, meth, c, Q, A, H0, ret, X, hini0, rfl⟩ := X
  exact g_if_eq X hd ht kt kf
theorem x_icmp_eq (X : eX l R G cc nL own D T ini) {x y : Int32} {off : Int} {tgt : Nat} (hd : decode cc pc = .ok (.if_icmp .eq off, 3)) (ht : (pc : Int) + off = (tgt : Int)) (kt : x = y → G cells slots tgt lv (st) ws) (kf : ¬ x = y → G cells slots (pc + 3) lv (st) ws) : G cells slots pc lv (.int y :: .int x :: st) ws := by
  obtain ⟨p, e, s, m, args, below, meth, c, Q, A, H0, ret, X, hini0, rfl⟩ := X
  exact g_icmp_eq X hd ht kt kf
theorem x_if_ne (X : eX l R G cc nL own D T ini) {x : Int32} {off : Int} {tgt : Nat} (hd : decode cc pc = .ok (.ifCond .ne off, 3)) (ht : (pc : Int) + off = (tgt : Int)) (kt : ¬ x = 0 → G cells slots tgt lv (st) ws) (kf : x = 0 → G cells slots (pc + 3) lv (st) ws) : G cells slots pc lv (.int x :: st) ws := by
  obtain ⟨p, e, s, m, args, below, meth, c, Q, A, H0, ret, X, hini0, rfl⟩ := X
  exact g_if_ne X hd ht kt kf
theorem x_icmp_ne (X : eX l R G cc nL own D T ini) {x y : Int32} {off : Int} {tgt : Nat} (hd : decode cc pc = .ok (.if_icmp .ne off, 3)) (ht : (pc : Int) + off = (tgt : Int)) (kt : ¬ x = y → G cells slots tgt lv (st) ws) (kf : x = y → G cells slots (pc + 3) lv (st) ws) : G cells slots pc lv (.int y :: .int x :: st) ws := by
  obtain ⟨p, e, s, m, args, below, meth, c, Q, A, H0, ret, X, hini0, rfl⟩ := X
  exact g_icmp_ne X hd ht kt kf
theorem x_if_lt (X : eX l R G cc nL own D T ini) {x : Int32} {off : Int} {tgt : Nat} (hd : decode cc pc = .ok (.ifCond .lt off, 3)) (ht : (pc : Int) + off = (tgt : Int)) (kt : x < 0 → G cells slots tgt lv (st) ws) (kf : ¬ x < 0 → G cells slots (pc + 3) lv (st) ws) : G cells slots pc lv (.int x :: st) ws := by
  obtain ⟨p, e, s, m, args, below, meth, c, Q, A, H0, ret, X, hini0, rfl⟩ := X
  exact g_if_lt X hd ht kt kf
theorem x_icmp_lt (X : eX l R G cc nL own D T ini) {x y : Int32} {off : Int} {tgt : Nat} (hd : decode cc pc = .ok (.if_icmp .lt off, 3)) (ht : (pc : Int) + off = (tgt : Int)) (kt : x < y → G cells slots tgt lv (st) ws) (kf : ¬ x < y → G cells slots (pc + 3) lv (st) ws) : G cells slots pc lv (.int y :: .int x :: st) ws := by
  obtain ⟨p, e, s, m, args, below, meth, c, Q, A, H0, ret, X, hini0, rfl⟩ := X
  exact g_icmp_lt X hd ht kt kf
theorem x_if_ge (X : eX l R G cc nL own D T ini) {x : Int32} {off : Int} {tgt : Nat} (hd : decode cc pc = .ok (.ifCond .ge off, 3)) (ht : (pc : Int) + off = (tgt : Int)) (kt : 0 ≤ x → G cells slots tgt lv (st) ws) (kf : ¬ 0 ≤ x → G cells slots (pc + 3) lv (st) ws) : G cells slots pc lv (.int x :: st) ws := by
  obtain ⟨p, e, s, m, args, below, meth, c, Q, A, H0, ret, X, hini0, rfl⟩ := X
  exact g_if_ge X hd ht kt kf
theorem x_icmp_ge (X : eX l R G cc nL own D T ini) {x y : Int32} {off : Int} {tgt : Nat} (hd : decode cc pc = .ok (.if_icmp .ge off, 3)) (ht : (pc : Int) + off = (tgt : Int)) (kt : y ≤ x → G cells slots tgt lv (st) ws) (kf : ¬ y ≤ x → G cells slots (pc + 3) lv (st) ws) : G cells slots pc lv (.int y :: .int x :: st) ws := by
  obtain ⟨p, e, s, m, args, below, meth, c, Q, A, H0, ret, X, hini0, rfl⟩ := X
  exact g_icmp_ge X hd ht kt kf
theorem x_if_gt (X : eX l R G cc nL own D T ini) {x : Int32} {off : Int} {tgt : Nat} (hd : decode cc pc = .ok (.ifCond .gt off, 3)) (ht : (pc : Int) + off = (tgt : Int)) (kt : 0 < x → G cells slots tgt lv (st) ws) (kf : ¬ 0 < x → G cells slots (pc + 3) lv (st) ws) : G cells slots pc lv (.int x :: st) ws := by
  obtain ⟨p, e, s, m, args, below, meth, c, Q, A, H0, ret, X, hini0, rfl⟩ := X
  exact g_if_gt X hd ht kt kf
theorem x_icmp_gt (X : eX l R G cc nL own D T ini) {x y : Int32} {off : Int} {tgt : Nat} (hd : decode cc pc = .ok (.if_icmp .gt off, 3)) (ht : (pc : Int) + off = (tgt : Int)) (kt : y < x → G cells slots tgt lv (st) ws) (kf : ¬ y < x → G cells slots (pc + 3) lv (st) ws) : G cells slots pc lv (.int y :: .int x :: st) ws := by
  obtain ⟨p, e, s, m, args, below, meth, c, Q, A, H0, ret, X, hini0, rfl⟩ := X
  exact g_icmp_gt X hd ht kt kf
theorem x_if_le (X : eX l R G cc nL own D T ini) {x : Int32} {off : Int} {tgt : Nat} (hd : decode cc pc = .ok (.ifCond .le off, 3)) (ht : (pc : Int) + off = (tgt : Int)) (kt : x ≤ 0 → G cells slots tgt lv (st) ws) (kf : ¬ x ≤ 0 → G cells slots (pc + 3) lv (st) ws) : G cells slots pc lv (.int x :: st) ws := by
  obtain ⟨p, e, s, m, args, below, meth, c, Q, A, H0, ret, X, hini0, rfl⟩ := X
  exact g_if_le X hd ht kt kf
theorem x_icmp_le (X : eX l R G cc nL own D T ini) {x y : Int32} {off : Int} {tgt : Nat} (hd : decode cc pc = .ok (.if_icmp .le off, 3)) (ht : (pc : Int) + off = (tgt : Int)) (kt : x ≤ y → G cells slots tgt lv (st) ws) (kf : ¬ x ≤ y → G cells slots (pc + 3) lv (st) ws) : G cells slots pc lv (.int y :: .int x :: st) ws := by
  obtain ⟨p, e, s, m, args, below, meth, c, Q, A, H0, ret, X, hini0, rfl⟩ := X
  exact g_icmp_le X hd ht kt kf
theorem x_goto (X : eX l R G cc nL own D T ini) {off : Int} {tgt : Nat} (hd : decode cc pc = .ok (.goto off, 3)) (ht : (pc : Int) + off = (tgt : Int)) (kk : G cells slots tgt lv (st) ws) : G cells slots pc lv (st) ws := by
  obtain ⟨p, e, s, m, args, below, meth, c, Q, A, H0, ret, X, hini0, rfl⟩ := X
  exact g_goto X hd ht kk
theorem x_ifnull (X : eX l R G cc nL own D T ini) {x : Nat} {off : Int} (hd : decode cc pc = .ok (.ifnull off, 3)) (kk : G cells slots (pc + 3) lv (st) ws) : G cells slots pc lv (.ref x :: st) ws := by
  obtain ⟨p, e, s, m, args, below, meth, c, Q, A, H0, ret, X, hini0, rfl⟩ := X
  exact g_ifnull X hd kk
theorem x_tableIn (X : eX l R G cc nL own D T ini) {dflt lo hi : Int} {offs : Array Int} {len : Nat} {x : Int32} {off : Int} {tgt : Nat} (hd : decode cc pc = .ok (.tableswitch dflt lo hi offs, len)) (h1 : ¬ x.toInt < lo) (h2 : ¬ hi < x.toInt) (ho : offs[(x.toInt - lo).toNat]? = some off) (ht : (pc : Int) + off = (tgt : Int)) (kk : G cells slots tgt lv (st) ws) : G cells slots pc lv (.int x :: st) ws := by
  obtain ⟨p, e, s, m, args, below, meth, c, Q, A, H0, ret, X, hini0, rfl⟩ := X
  exact g_tableIn X hd h1 h2 ho ht kk
theorem x_tableOut (X : eX l R G cc nL own D T ini) {dflt lo hi : Int} {offs : Array Int} {len : Nat} {x : Int32} {tgt : Nat} (hd : decode cc pc = .ok (.tableswitch dflt lo hi offs, len)) (h : x.toInt < lo ∨ hi < x.toInt) (ht : (pc : Int) + dflt = (tgt : Int)) (kk : G cells slots tgt lv (st) ws) : G cells slots pc lv (.int x :: st) ws := by
  obtain ⟨p, e, s, m, args, below, meth, c, Q, A, H0, ret, X, hini0, rfl⟩ := X
  exact g_tableOut X hd h ht kk
theorem x_lookup (X : eX l R G cc nL own D T ini) {dflt : Int} {ps : Array (Int × Int)} {len : Nat} {x : Int32} {off : Int} {tgt : Nat} (hd : decode cc pc = .ok (.lookupswitch dflt ps, len)) (hp : (ps.toList.zip (ps.toList.drop 1)).all (fun (a, next) => a.1 < next.1) = true) (ho : Op.lookupswitch.offset ps.toList dflt x.toInt = off) (ht : (pc : Int) + off = (tgt : Int)) (kk : G cells slots tgt lv (st) ws) : G cells slots pc lv (.int x :: st) ws := by
  obtain ⟨p, e, s, m, args, below, meth, c, Q, A, H0, ret, X, hini0, rfl⟩ := X
  exact g_lookup X hd hp ho ht kk
theorem x_get (X : eX l R G cc nL own D T ini) {ref C : String} {Tt : u_T} {N ci index a : Nat} {fs : List Value} {v : Value} (hin : ∀ w ∈ u_ws C Tt N, w ∈ lw_good) (k : Nat) (hk : k < N) (hsame : (Tt k).1 = ref) (hlink : Cond.fieldLink own index ref (Tt k).2.1 (Tt k).2.2.1 ∈ lw_good) (hd : decode cc pc = .ok (.getfield index, 3)) (hc : vwCl[ci]? = some (C, Tt, N)) (q0 : Nat) (he : ws[q0]? = some (a, .inr (ci, fs))) (hv : fs[k]? = some v) (kk : G cells slots (pc + 3) lv (v :: st) ws) : G cells slots pc lv (.ref a :: st) ws := by
  obtain ⟨p, e, s, m, args, below, meth, c, Q, A, H0, ret, X, hini0, rfl⟩ := X
  exact g_get X hin k hk hsame hlink hd hc q0 he hv kk
theorem x_put (X : eX l R G cc nL own D T ini) {ref C : String} {Tt : u_T} {N ci index a : Nat} {fs : List Value} {v : Value} {ty0 : Nat → FieldType} (hin : ∀ w ∈ u_ws C Tt N, w ∈ lw_good) (hty : ∀ k, k < N → parseFieldDescriptor (Tt k).2.2.1 = some (ty0 k)) (hnm : ∀ a, a < N → ∀ b, b < N → a ≠ b → (Tt a).2.1 ≠ (Tt b).2.1) (k : Nat) (hk : k < N) (hsame : (Tt k).1 = ref) (hlink : Cond.fieldLink own index ref (Tt k).2.1 (Tt k).2.2.1 ∈ lw_good) (hd : decode cc pc = .ok (.putfield index, 3)) (hc : vwCl[ci]? = some (C, Tt, N)) (hfin : (Tt k).2.2.2 = false) (q0 : Nat) (he : ws[q0]? = some (a, .inr (ci, fs))) (hn : narrow (ty0 k) v = v) (hfit : fits (ty0 k) v = true) (hlf : k < fs.length) (hw : ws.set q0 (a, .inr (ci, fs.set k v)) = ws') (kk : G cells slots (pc + 3) lv (st) ws') : G cells slots pc lv (v :: .ref a :: st) ws := by
  obtain ⟨p, e, s, m, args, below, meth, c, Q, A, H0, ret, X, hini0, rfl⟩ := X
  exact g_put X hin hty hnm k hk hsame hlink hd hc hfin q0 he hn hfit hlf hw kk
theorem x_getN (X : eX l R G cc nL own D T ini) {host : String} {ref C : String} {Tt : u_T} {N ci index a : Nat} {fs : List Value} {v : Value} (hin : ∀ w ∈ u_ws C Tt N, w ∈ lw_good) (k : Nat) (hk : k < N) (hsame : (Tt k).1 = ref) (hlink : Cond.fieldLinkNest own index ref (Tt k).2.1 (Tt k).2.2.1 host ∈ lw_nest) (hd : decode cc pc = .ok (.getfield index, 3)) (hc : vwCl[ci]? = some (C, Tt, N)) (q0 : Nat) (he : ws[q0]? = some (a, .inr (ci, fs))) (hv : fs[k]? = some v) (kk : G cells slots (pc + 3) lv (v :: st) ws) : G cells slots pc lv (.ref a :: st) ws := by
  obtain ⟨p, e, s, m, args, below, meth, c, Q, A, H0, ret, X, hini0, rfl⟩ := X
  exact g_getN X hin k hk hsame hlink hd hc q0 he hv kk
theorem x_putN (X : eX l R G cc nL own D T ini) {host : String} {ref C : String} {Tt : u_T} {N ci index a : Nat} {fs : List Value} {v : Value} {ty0 : Nat → FieldType} (hin : ∀ w ∈ u_ws C Tt N, w ∈ lw_good) (hty : ∀ k, k < N → parseFieldDescriptor (Tt k).2.2.1 = some (ty0 k)) (hnm : ∀ a, a < N → ∀ b, b < N → a ≠ b → (Tt a).2.1 ≠ (Tt b).2.1) (k : Nat) (hk : k < N) (hsame : (Tt k).1 = ref) (hlink : Cond.fieldLinkNest own index ref (Tt k).2.1 (Tt k).2.2.1 host ∈ lw_nest) (hd : decode cc pc = .ok (.putfield index, 3)) (hc : vwCl[ci]? = some (C, Tt, N)) (hfin : (Tt k).2.2.2 = false) (q0 : Nat) (he : ws[q0]? = some (a, .inr (ci, fs))) (hn : narrow (ty0 k) v = v) (hfit : fits (ty0 k) v = true) (hlf : k < fs.length) (hw : ws.set q0 (a, .inr (ci, fs.set k v)) = ws') (kk : G cells slots (pc + 3) lv (st) ws') : G cells slots pc lv (v :: .ref a :: st) ws := by
  obtain ⟨p, e, s, m, args, below, meth, c, Q, A, H0, ret, X, hini0, rfl⟩ := X
  exact g_putN X hin hty hnm k hk hsame hlink hd hc hfin q0 he hn hfit hlf hw kk
theorem x_putF (X : eX l R G cc nL own D T ini) {ref C : String} {Tt : u_T} {N ci index a : Nat} {fs : List Value} {v : Value} {ty0 : Nat → FieldType} (hin : ∀ w ∈ u_ws C Tt N, w ∈ lw_good) (hty : ∀ k, k < N → parseFieldDescriptor (Tt k).2.2.1 = some (ty0 k)) (hnm : ∀ a, a < N → ∀ b, b < N → a ≠ b → (Tt a).2.1 ≠ (Tt b).2.1) (k : Nat) (hk : k < N) (hsame : (Tt k).1 = ref) (hlink : Cond.fieldLink own index ref (Tt k).2.1 (Tt k).2.2.1 ∈ lw_good) (hd : decode cc pc = .ok (.putfield index, 3)) (hc : vwCl[ci]? = some (C, Tt, N)) (hfin : (Tt k).2.2.2 = true) (hin2 : ini) (hdecl : (Tt k).1 = own) (q0 : Nat) (he : ws[q0]? = some (a, .inr (ci, fs))) (hn : narrow (ty0 k) v = v) (hfit : fits (ty0 k) v = true) (hlf : k < fs.length) (hw : ws.set q0 (a, .inr (ci, fs.set k v)) = ws') (kk : G cells slots (pc + 3) lv (st) ws') : G cells slots pc lv (v :: .ref a :: st) ws := by
  obtain ⟨p, e, s, m, args, below, meth, c, Q, A, H0, ret, X, hini0, rfl⟩ := X
  exact g_putF X hin hty hnm k hk hsame hlink hd hc hfin (hini0 hin2) hdecl q0 he hn hfit hlf hw kk
theorem x_iald (X : eX l R G cc nL own D T ini) {a n : Nat} {f : Nat → Int32} {i : Int32} (hd : decode cc pc = .ok (.iaload, 1)) (q0 : Nat) (he : ws[q0]? = some (a, .inl (T 1, n, .inl f))) (hin : vp_in i n) (kk : G cells slots (pc + 1) lv (.int (f i.toNatClampNeg) :: st) ws) : G cells slots pc lv (.int i :: .ref a :: st) ws := by
  obtain ⟨p, e, s, m, args, below, meth, c, Q, A, H0, ret, X, hini0, rfl⟩ := X
  exact g_iald X hd q0 he hin kk
theorem x_iast (X : eX l R G cc nL own D T ini) {a n : Nat} {f : Nat → Int32} {i : Int32} {x : Int32} (hd : decode cc pc = .ok (.iastore, 1)) (q0 : Nat) (he : ws[q0]? = some (a, .inl (T 1, n, .inl f))) (hin : vp_in i n) (hw : ws.set q0 (a, .inl (T 1, n, .inl (upd f i.toNatClampNeg x))) = ws') (kk : G cells slots (pc + 1) lv (st) ws') : G cells slots pc lv (.int x :: .int i :: .ref a :: st) ws := by
  obtain ⟨p, e, s, m, args, below, meth, c, Q, A, H0, ret, X, hini0, rfl⟩ := X
  exact g_iast X hd q0 he hin hw kk
theorem x_bald (X : eX l R G cc nL own D T ini) {a n : Nat} {f : Nat → Int32} {i : Int32} (hd : decode cc pc = .ok (.baload, 1)) (q0 : Nat) (he : ws[q0]? = some (a, .inl (T 0, n, .inl f))) (hin : vp_in i n) (kk : G cells slots (pc + 1) lv (.int (f i.toNatClampNeg) :: st) ws) : G cells slots pc lv (.int i :: .ref a :: st) ws := by
  obtain ⟨p, e, s, m, args, below, meth, c, Q, A, H0, ret, X, hini0, rfl⟩ := X
  exact g_bald X hd q0 he hin kk
theorem x_bast (X : eX l R G cc nL own D T ini) {a n : Nat} {f : Nat → Int32} {i : Int32} {x : Int32} (hd : decode cc pc = .ok (.bastore, 1)) (q0 : Nat) (he : ws[q0]? = some (a, .inl (T 0, n, .inl f))) (hin : vp_in i n) (hw : ws.set q0 (a, .inl (T 0, n, .inl (upd f i.toNatClampNeg (vp_nar .byte x)))) = ws') (kk : G cells slots (pc + 1) lv (st) ws') : G cells slots pc lv (.int x :: .int i :: .ref a :: st) ws := by
  obtain ⟨p, e, s, m, args, below, meth, c, Q, A, H0, ret, X, hini0, rfl⟩ := X
  exact g_bast X hd q0 he hin hw kk
theorem x_zald (X : eX l R G cc nL own D T ini) {a n : Nat} {f : Nat → Int32} {i : Int32} (hd : decode cc pc = .ok (.baload, 1)) (q0 : Nat) (he : ws[q0]? = some (a, .inl (T 3, n, .inl f))) (hin : vp_in i n) (kk : G cells slots (pc + 1) lv (.int (f i.toNatClampNeg) :: st) ws) : G cells slots pc lv (.int i :: .ref a :: st) ws := by
  obtain ⟨p, e, s, m, args, below, meth, c, Q, A, H0, ret, X, hini0, rfl⟩ := X
  exact g_zald X hd q0 he hin kk
theorem x_zast (X : eX l R G cc nL own D T ini) {a n : Nat} {f : Nat → Int32} {i : Int32} {x : Int32} (hd : decode cc pc = .ok (.bastore, 1)) (q0 : Nat) (he : ws[q0]? = some (a, .inl (T 3, n, .inl f))) (hin : vp_in i n) (hw : ws.set q0 (a, .inl (T 3, n, .inl (upd f i.toNatClampNeg (vp_nar .boolean x)))) = ws') (kk : G cells slots (pc + 1) lv (st) ws') : G cells slots pc lv (.int x :: .int i :: .ref a :: st) ws := by
  obtain ⟨p, e, s, m, args, below, meth, c, Q, A, H0, ret, X, hini0, rfl⟩ := X
  exact g_zast X hd q0 he hin hw kk
theorem x_lald (X : eX l R G cc nL own D T ini) {a n : Nat} {f : Nat → Int64} {i : Int32} (hd : decode cc pc = .ok (.laload, 1)) (q0 : Nat) (he : ws[q0]? = some (a, .inl (T 2, n, .inr (.inl f)))) (hin : vp_in i n) (kk : G cells slots (pc + 1) lv (.long (f i.toNatClampNeg) :: st) ws) : G cells slots pc lv (.int i :: .ref a :: st) ws := by
  obtain ⟨p, e, s, m, args, below, meth, c, Q, A, H0, ret, X, hini0, rfl⟩ := X
  exact g_lald X hd q0 he hin kk
theorem x_last (X : eX l R G cc nL own D T ini) {a n : Nat} {f : Nat → Int64} {i : Int32} {x : Int64} (hd : decode cc pc = .ok (.lastore, 1)) (q0 : Nat) (he : ws[q0]? = some (a, .inl (T 2, n, .inr (.inl f)))) (hin : vp_in i n) (hw : ws.set q0 (a, .inl (T 2, n, .inr (.inl (vp_updL f i.toNatClampNeg x)))) = ws') (kk : G cells slots (pc + 1) lv (st) ws') : G cells slots pc lv (.long x :: .int i :: .ref a :: st) ws := by
  obtain ⟨p, e, s, m, args, below, meth, c, Q, A, H0, ret, X, hini0, rfl⟩ := X
  exact g_last X hd q0 he hin hw kk
theorem x_alen (X : eX l R G cc nL own D T ini) {a : Nat} {cA : ClassId} {x : vp_A} {ty : FieldType} {v : Int32} (hd : decode cc pc = .ok (.arraylength, 1)) (q0 t0 : Nat) (he : ws[q0]? = some (a, .inl (cA, x))) (ht : (eT T)[t0]? = some (cA, ty)) (hv : Int32.ofNat x.1 = v) (kk : G cells slots (pc + 1) lv (.int v :: st) ws) : G cells slots pc lv (.ref a :: st) ws := by
  obtain ⟨p, e, s, m, args, below, meth, c, Q, A, H0, ret, X, hini0, rfl⟩ := X
  exact g_alen X hd q0 t0 he ht hv kk
theorem x_topi (X : eX l R G cc nL own D T ini) {x : Int32} (k : ∀ y : Int32, y = x → G cells slots pc lv (.int y :: st) ws) : G cells slots pc lv (.int x :: st) ws := by
  obtain ⟨p, e, s, m, args, below, meth, c, Q, A, H0, ret, X, hini0, rfl⟩ := X
  exact g_topi k
theorem x_topl (X : eX l R G cc nL own D T ini) {x : Int64} (k : ∀ y : Int64, y = x → G cells slots pc lv (.long y :: st) ws) : G cells slots pc lv (.long x :: st) ws := by
  obtain ⟨p, e, s, m, args, below, meth, c, Q, A, H0, ret, X, hini0, rfl⟩ := X
  exact g_topl k
theorem x_mmax (X : eX l R G cc nL own D T ini) {index : Nat} {x y : Int32} (hlink : Cond.methodLink own index Lib.Math.max.name ∈ lw_good) (hstat : Cond.static Lib.Math.max.name ∈ lw_good) (hini : Cond.initialized "java/lang/Math" ∈ lw_good) (hcode : Cond.code Lib.Math.max.name Lib.Math.max.code 2 (some .int) ∈ lw_good) (hfr : 1 ≤ R.frames) (hlo : 50 ≤ R.locals) (hst : (st.map fun v => v.category).sum ≤ 8) (hc : cells ≤ R.cells) (hs : slots ≤ R.slots) (hd : decode cc pc = .ok (.invokestatic index, 3)) (kk : G cells slots (pc + 3) lv (.int (if x < y then y else x) :: st) ws) : G cells slots pc lv (.int y :: .int x :: st) ws := by
  obtain ⟨p, e, s, m, args, below, meth, c, Q, A, H0, ret, X, hini0, rfl⟩ := X
  exact g_mmax X hlink hstat hini hcode hfr hlo hst hc hs hd kk
theorem x_mmin (X : eX l R G cc nL own D T ini) {index : Nat} {x y : Int32} (hlink : Cond.methodLink own index Lib.Math.min.name ∈ lw_good) (hstat : Cond.static Lib.Math.min.name ∈ lw_good) (hini : Cond.initialized "java/lang/Math" ∈ lw_good) (hcode : Cond.code Lib.Math.min.name Lib.Math.min.code 2 (some .int) ∈ lw_good) (hfr : 1 ≤ R.frames) (hlo : 50 ≤ R.locals) (hst : (st.map fun v => v.category).sum ≤ 8) (hc : cells ≤ R.cells) (hs : slots ≤ R.slots) (hd : decode cc pc = .ok (.invokestatic index, 3)) (kk : G cells slots (pc + 3) lv (.int (if y < x then y else x) :: st) ws) : G cells slots pc lv (.int y :: .int x :: st) ws := by
  obtain ⟨p, e, s, m, args, below, meth, c, Q, A, H0, ret, X, hini0, rfl⟩ := X
  exact g_mmin X hlink hstat hini hcode hfr hlo hst hc hs hd kk
theorem x_lmmax (X : eX l R G cc nL own D T ini) {index : Nat} {x y : Int64} (hlink : Cond.methodLink own index Lib.MathLoose.max_long.x ∈ lw_good) (hstat : Cond.static Lib.MathLoose.max_long.x ∈ lw_good) (hini : Cond.initialized "java/lang/Math" ∈ lw_good) (hcode : Cond.code Lib.MathLoose.max_long.x Lib.MathLoose.max_long.code 4 (some .long) ∈ lw_good) (hfr : 1 ≤ R.frames) (hlo : 50 ≤ R.locals) (hst : (st.map fun v => v.category).sum ≤ 8) (hc : cells ≤ R.cells) (hs : slots ≤ R.slots) (hd : decode cc pc = .ok (.invokestatic index, 3)) (kk : G cells slots (pc + 3) lv (.long (if y < x then x else y) :: st) ws) : G cells slots pc lv (.long y :: .long x :: st) ws := by
  obtain ⟨p, e, s, m, args, below, meth, c, Q, A, H0, ret, X, hini0, rfl⟩ := X
  exact g_lmmax X hlink hstat hini hcode hfr hlo hst hc hs hd kk
theorem x_lmmin (X : eX l R G cc nL own D T ini) {index : Nat} {x y : Int64} (hlink : Cond.methodLink own index Lib.MathLoose.min_long.x ∈ lw_good) (hstat : Cond.static Lib.MathLoose.min_long.x ∈ lw_good) (hini : Cond.initialized "java/lang/Math" ∈ lw_good) (hcode : Cond.code Lib.MathLoose.min_long.x Lib.MathLoose.min_long.code 4 (some .long) ∈ lw_good) (hfr : 1 ≤ R.frames) (hlo : 50 ≤ R.locals) (hst : (st.map fun v => v.category).sum ≤ 8) (hc : cells ≤ R.cells) (hs : slots ≤ R.slots) (hd : decode cc pc = .ok (.invokestatic index, 3)) (kk : G cells slots (pc + 3) lv (.long (if y < x then y else x) :: st) ws) : G cells slots pc lv (.long y :: .long x :: st) ws := by
  obtain ⟨p, e, s, m, args, below, meth, c, Q, A, H0, ret, X, hini0, rfl⟩ := X
  exact g_lmmin X hlink hstat hini hcode hfr hlo hst hc hs hd kk
theorem x_acopy (X : eX l R G cc nL own D T ini) {index : Nat} {a0 a : Nat} {n0 n1 : Nat} {f g : Nat → Int32} {sp dp n : Int32} (hlink : Cond.methodLink own index arraycopyName ∈ lw_good) (hnat : Cond.native arraycopyName ∈ lw_good) (hstat : Cond.static arraycopyName ∈ lw_good) (hini : Cond.initialized "java/lang/System" ∈ lw_good) (q0 q1 : Nat) (ha0 : ws[q0]? = some (a0, .inl (T 1, n0, .inl f))) (ha1 : ws[q1]? = some (a, .inl (T 1, n1, .inl g))) (h1 : ¬ sp < 0) (h2 : ¬ dp < 0) (h3 : ¬ n < 0) (h4 : sp.toNatClampNeg + n.toNatClampNeg ≤ n0) (h5 : dp.toNatClampNeg + n.toNatClampNeg ≤ n1) (hfr : 1 ≤ R.frames) (hlo : 50 ≤ R.locals) (hst : (st.map fun v => v.category).sum ≤ 8) (hd : decode cc pc = .ok (.invokestatic index, 3)) (hw : ws.set q1 (a, .inl (T 1, n1, .inl (va_cpy f g sp.toNatClampNeg dp.toNatClampNeg n.toNatClampNeg))) = ws') (kk : G cells slots (pc + 3) lv (st) ws') : G cells slots pc lv (.int n :: .int dp :: .ref a :: .int sp :: .ref a0 :: st) ws := by
  obtain ⟨p, e, s, m, args, below, meth, c, Q, A, H0, ret, X, hini0, rfl⟩ := X
  exact g_acopy X hlink hnat hstat hini q0 q1 ha0 ha1 h1 h2 h3 h4 h5 hfr hlo hst hd hw kk
theorem x_perm (X : eX l R G cc nL own D T ini) (is : List Nat) (h : is.map (fun i => ws[i]?) = ws2.map some) (hn : va_nd is = true) (kk : G cells slots pc lv (st) ws2) : G cells slots pc lv (st) ws := by
  obtain ⟨p, e, s, m, args, below, meth, c, Q, A, H0, ret, X, hini0, rfl⟩ := X
  exact g_perm is h hn kk
theorem x_callSI (X : eX l R G cc nL own D T ini) {post : Int32 → va_W → Prop} (hM : cI l D T y b n r fr lo mc ms av wc post) (hY : eYS y b n r k) (hlink : Cond.methodLink own index y ∈ lw_good) (hd : decode cc pc = .ok (.invokestatic index, 3)) (isC isR : List Nat) (hC : isC.map (fun i => ws[i]?) = wc.map some) (hCn : va_nd isC = true) (hR : isR.map (fun i => ws[i]?) = wr.map some) (hRn : va_nd isR = true) (hdis : ∀ i ∈ isR, i ∉ isC) (hk : av.length = k) (hst : av.reverse ++ st = st0) (hcat : (st.map fun v => v.category).sum ≤ 8) (hfr : fr + 1 ≤ R.frames) (hlo : 8 + (n + 11) + lo ≤ R.locals) (hcs : cells + mc ≤ R.cells) (hss : slots + ms ≤ R.slots) (kk : ∀ (v : Int32) (w1 : va_W), post v w1 → G (cells + mc) (slots + ms) (pc + 3) lv (.int v :: st) (wr ++ w1)) : G cells slots pc lv (st0) ws := by
  obtain ⟨p, e, s, m, args, below, meth, c, Q, A, H0, ret, X, hini0, rfl⟩ := X
  exact g_callSI X hM hY hlink hd isC isR hC hCn hR hRn hdis hk hst hcat hfr hlo hcs hss kk
theorem x_callSJ (X : eX l R G cc nL own D T ini) {post : Int64 → va_W → Prop} (hM : cJ l D T y b n r fr lo mc ms av wc post) (hY : eYS y b n r k) (hlink : Cond.methodLink own index y ∈ lw_good) (hd : decode cc pc = .ok (.invokestatic index, 3)) (isC isR : List Nat) (hC : isC.map (fun i => ws[i]?) = wc.map some) (hCn : va_nd isC = true) (hR : isR.map (fun i => ws[i]?) = wr.map some) (hRn : va_nd isR = true) (hdis : ∀ i ∈ isR, i ∉ isC) (hk : av.length = k) (hst : av.reverse ++ st = st0) (hcat : (st.map fun v => v.category).sum ≤ 8) (hfr : fr + 1 ≤ R.frames) (hlo : 8 + (n + 11) + lo ≤ R.locals) (hcs : cells + mc ≤ R.cells) (hss : slots + ms ≤ R.slots) (kk : ∀ (v : Int64) (w1 : va_W), post v w1 → G (cells + mc) (slots + ms) (pc + 3) lv (.long v :: st) (wr ++ w1)) : G cells slots pc lv (st0) ws := by
  obtain ⟨p, e, s, m, args, below, meth, c, Q, A, H0, ret, X, hini0, rfl⟩ := X
  exact g_callSJ X hM hY hlink hd isC isR hC hCn hR hRn hdis hk hst hcat hfr hlo hcs hss kk
theorem x_callSV (X : eX l R G cc nL own D T ini) {post : va_W → Prop} (hM : cV l D T y b n r fr lo mc ms av wc post) (hY : eYS y b n r k) (hlink : Cond.methodLink own index y ∈ lw_good) (hd : decode cc pc = .ok (.invokestatic index, 3)) (isC isR : List Nat) (hC : isC.map (fun i => ws[i]?) = wc.map some) (hCn : va_nd isC = true) (hR : isR.map (fun i => ws[i]?) = wr.map some) (hRn : va_nd isR = true) (hdis : ∀ i ∈ isR, i ∉ isC) (hk : av.length = k) (hst : av.reverse ++ st = st0) (hcat : (st.map fun v => v.category).sum ≤ 8) (hfr : fr + 1 ≤ R.frames) (hlo : 8 + (n + 11) + lo ≤ R.locals) (hcs : cells + mc ≤ R.cells) (hss : slots + ms ≤ R.slots) (kk : ∀ (w1 : va_W), post w1 → G (cells + mc) (slots + ms) (pc + 3) lv (st) (wr ++ w1)) : G cells slots pc lv (st0) ws := by
  obtain ⟨p, e, s, m, args, below, meth, c, Q, A, H0, ret, X, hini0, rfl⟩ := X
  exact g_callSV X hM hY hlink hd isC isR hC hCn hR hRn hdis hk hst hcat hfr hlo hcs hss kk
theorem x_callVI (X : eX l R G cc nL own D T ini) {post : Int32 → va_W → Prop} (hM : cI l D T y b n r fr lo mc ms (.ref a :: av) wc post) (hY : eYV y b n r k) (hlink : Cond.methodLink own index y ∈ lw_good) (hd : decode cc pc = .ok (.invokevirtual index, 3)) {Tt : u_T} {N : Nat} (q0 : Nat) (he : ws[q0]? = some (a, .inr (ci, fs))) (hcl : vwCl[ci]? = some (y.cls, Tt, N)) (isC isR : List Nat) (hC : isC.map (fun i => ws[i]?) = wc.map some) (hCn : va_nd isC = true) (hR : isR.map (fun i => ws[i]?) = wr.map some) (hRn : va_nd isR = true) (hdis : ∀ i ∈ isR, i ∉ isC) (hk : av.length = k) (hst : av.reverse ++ .ref a :: st = st0) (hcat : (st.map fun v => v.category).sum ≤ 8) (hfr : fr + 1 ≤ R.frames) (hlo : 8 + (n + 11) + lo ≤ R.locals) (hcs : cells + mc ≤ R.cells) (hss : slots + ms ≤ R.slots) (kk : ∀ (v : Int32) (w1 : va_W), post v w1 → G (cells + mc) (slots + ms) (pc + 3) lv (.int v :: st) (wr ++ w1)) : G cells slots pc lv (st0) ws := by
  obtain ⟨p, e, s, m, args, below, meth, c, Q, A, H0, ret, X, hini0, rfl⟩ := X
  exact g_callVI X hM hY hlink hd q0 he hcl isC isR hC hCn hR hRn hdis hk hst hcat hfr hlo hcs hss kk
theorem x_callVJ (X : eX l R G cc nL own D T ini) {post : Int64 → va_W → Prop} (hM : cJ l D T y b n r fr lo mc ms (.ref a :: av) wc post) (hY : eYV y b n r k) (hlink : Cond.methodLink own index y ∈ lw_good) (hd : decode cc pc = .ok (.invokevirtual index, 3)) {Tt : u_T} {N : Nat} (q0 : Nat) (he : ws[q0]? = some (a, .inr (ci, fs))) (hcl : vwCl[ci]? = some (y.cls, Tt, N)) (isC isR : List Nat) (hC : isC.map (fun i => ws[i]?) = wc.map some) (hCn : va_nd isC = true) (hR : isR.map (fun i => ws[i]?) = wr.map some) (hRn : va_nd isR = true) (hdis : ∀ i ∈ isR, i ∉ isC) (hk : av.length = k) (hst : av.reverse ++ .ref a :: st = st0) (hcat : (st.map fun v => v.category).sum ≤ 8) (hfr : fr + 1 ≤ R.frames) (hlo : 8 + (n + 11) + lo ≤ R.locals) (hcs : cells + mc ≤ R.cells) (hss : slots + ms ≤ R.slots) (kk : ∀ (v : Int64) (w1 : va_W), post v w1 → G (cells + mc) (slots + ms) (pc + 3) lv (.long v :: st) (wr ++ w1)) : G cells slots pc lv (st0) ws := by
  obtain ⟨p, e, s, m, args, below, meth, c, Q, A, H0, ret, X, hini0, rfl⟩ := X
  exact g_callVJ X hM hY hlink hd q0 he hcl isC isR hC hCn hR hRn hdis hk hst hcat hfr hlo hcs hss kk
theorem x_callVV (X : eX l R G cc nL own D T ini) {post : va_W → Prop} (hM : cV l D T y b n r fr lo mc ms (.ref a :: av) wc post) (hY : eYV y b n r k) (hlink : Cond.methodLink own index y ∈ lw_good) (hd : decode cc pc = .ok (.invokevirtual index, 3)) {Tt : u_T} {N : Nat} (q0 : Nat) (he : ws[q0]? = some (a, .inr (ci, fs))) (hcl : vwCl[ci]? = some (y.cls, Tt, N)) (isC isR : List Nat) (hC : isC.map (fun i => ws[i]?) = wc.map some) (hCn : va_nd isC = true) (hR : isR.map (fun i => ws[i]?) = wr.map some) (hRn : va_nd isR = true) (hdis : ∀ i ∈ isR, i ∉ isC) (hk : av.length = k) (hst : av.reverse ++ .ref a :: st = st0) (hcat : (st.map fun v => v.category).sum ≤ 8) (hfr : fr + 1 ≤ R.frames) (hlo : 8 + (n + 11) + lo ≤ R.locals) (hcs : cells + mc ≤ R.cells) (hss : slots + ms ≤ R.slots) (kk : ∀ (w1 : va_W), post w1 → G (cells + mc) (slots + ms) (pc + 3) lv (st) (wr ++ w1)) : G cells slots pc lv (st0) ws := by
  obtain ⟨p, e, s, m, args, below, meth, c, Q, A, H0, ret, X, hini0, rfl⟩ := X
  exact g_callVV X hM hY hlink hd q0 he hcl isC isR hC hCn hR hRn hdis hk hst hcat hfr hlo hcs hss kk
theorem x_callIV (X : eX l R G cc nL own D T ini) {post : va_W → Prop} (hM : cV l D T y b n none fr lo mc ms (.ref a :: av) wc post) (hY : eYI y b n k) (hlink : Cond.methodLink own index y ∈ lw_good) (hd : decode cc pc = .ok (.invokespecial index, 3)) (isC isR : List Nat) (hC : isC.map (fun i => ws[i]?) = wc.map some) (hCn : va_nd isC = true) (hR : isR.map (fun i => ws[i]?) = wr.map some) (hRn : va_nd isR = true) (hdis : ∀ i ∈ isR, i ∉ isC) (hk : av.length = k) (hst : av.reverse ++ .ref a :: st = st0) (hcat : (st.map fun v => v.category).sum ≤ 8) (hfr : fr + 1 ≤ R.frames) (hlo : 8 + (n + 11) + lo ≤ R.locals) (hcs : cells + mc ≤ R.cells) (hss : slots + ms ≤ R.slots) (kk : ∀ (w1 : va_W), post w1 → G (cells + mc) (slots + ms) (pc + 3) lv (st) (wr ++ w1)) : G cells slots pc lv (st0) ws := by
  obtain ⟨p, e, s, m, args, below, meth, c, Q, A, H0, ret, X, hini0, rfl⟩ := X
  exact g_callIV X hM hY hlink hd isC isR hC hCn hR hRn hdis hk hst hcat hfr hlo hcs hss kk
theorem x_callSNI (X : eX l R G cc nL own D T ini) {post : Int32 → va_W → Prop} (hM : cI l D T y b n r fr lo mc ms av wc post) (hY : eYS y b n r k) (hlink : Cond.methodLinkNest own index y host ∈ lw_nest) (hd : decode cc pc = .ok (.invokestatic index, 3)) (isC isR : List Nat) (hC : isC.map (fun i => ws[i]?) = wc.map some) (hCn : va_nd isC = true) (hR : isR.map (fun i => ws[i]?) = wr.map some) (hRn : va_nd isR = true) (hdis : ∀ i ∈ isR, i ∉ isC) (hk : av.length = k) (hst : av.reverse ++ st = st0) (hcat : (st.map fun v => v.category).sum ≤ 8) (hfr : fr + 1 ≤ R.frames) (hlo : 8 + (n + 11) + lo ≤ R.locals) (hcs : cells + mc ≤ R.cells) (hss : slots + ms ≤ R.slots) (kk : ∀ (v : Int32) (w1 : va_W), post v w1 → G (cells + mc) (slots + ms) (pc + 3) lv (.int v :: st) (wr ++ w1)) : G cells slots pc lv (st0) ws := by
  obtain ⟨p, e, s, m, args, below, meth, c, Q, A, H0, ret, X, hini0, rfl⟩ := X
  exact g_callSNI X hM hY hlink hd isC isR hC hCn hR hRn hdis hk hst hcat hfr hlo hcs hss kk
theorem x_callSNJ (X : eX l R G cc nL own D T ini) {post : Int64 → va_W → Prop} (hM : cJ l D T y b n r fr lo mc ms av wc post) (hY : eYS y b n r k) (hlink : Cond.methodLinkNest own index y host ∈ lw_nest) (hd : decode cc pc = .ok (.invokestatic index, 3)) (isC isR : List Nat) (hC : isC.map (fun i => ws[i]?) = wc.map some) (hCn : va_nd isC = true) (hR : isR.map (fun i => ws[i]?) = wr.map some) (hRn : va_nd isR = true) (hdis : ∀ i ∈ isR, i ∉ isC) (hk : av.length = k) (hst : av.reverse ++ st = st0) (hcat : (st.map fun v => v.category).sum ≤ 8) (hfr : fr + 1 ≤ R.frames) (hlo : 8 + (n + 11) + lo ≤ R.locals) (hcs : cells + mc ≤ R.cells) (hss : slots + ms ≤ R.slots) (kk : ∀ (v : Int64) (w1 : va_W), post v w1 → G (cells + mc) (slots + ms) (pc + 3) lv (.long v :: st) (wr ++ w1)) : G cells slots pc lv (st0) ws := by
  obtain ⟨p, e, s, m, args, below, meth, c, Q, A, H0, ret, X, hini0, rfl⟩ := X
  exact g_callSNJ X hM hY hlink hd isC isR hC hCn hR hRn hdis hk hst hcat hfr hlo hcs hss kk
theorem x_callSNV (X : eX l R G cc nL own D T ini) {post : va_W → Prop} (hM : cV l D T y b n r fr lo mc ms av wc post) (hY : eYS y b n r k) (hlink : Cond.methodLinkNest own index y host ∈ lw_nest) (hd : decode cc pc = .ok (.invokestatic index, 3)) (isC isR : List Nat) (hC : isC.map (fun i => ws[i]?) = wc.map some) (hCn : va_nd isC = true) (hR : isR.map (fun i => ws[i]?) = wr.map some) (hRn : va_nd isR = true) (hdis : ∀ i ∈ isR, i ∉ isC) (hk : av.length = k) (hst : av.reverse ++ st = st0) (hcat : (st.map fun v => v.category).sum ≤ 8) (hfr : fr + 1 ≤ R.frames) (hlo : 8 + (n + 11) + lo ≤ R.locals) (hcs : cells + mc ≤ R.cells) (hss : slots + ms ≤ R.slots) (kk : ∀ (w1 : va_W), post w1 → G (cells + mc) (slots + ms) (pc + 3) lv (st) (wr ++ w1)) : G cells slots pc lv (st0) ws := by
  obtain ⟨p, e, s, m, args, below, meth, c, Q, A, H0, ret, X, hini0, rfl⟩ := X
  exact g_callSNV X hM hY hlink hd isC isR hC hCn hR hRn hdis hk hst hcat hfr hlo hcs hss kk
theorem x_callVNI (X : eX l R G cc nL own D T ini) {post : Int32 → va_W → Prop} (hM : cI l D T y b n r fr lo mc ms (.ref a :: av) wc post) (hY : eYV y b n r k) (hlink : Cond.methodLinkNest own index y host ∈ lw_nest) (hd : decode cc pc = .ok (.invokevirtual index, 3)) {Tt : u_T} {N : Nat} (q0 : Nat) (he : ws[q0]? = some (a, .inr (ci, fs))) (hcl : vwCl[ci]? = some (y.cls, Tt, N)) (isC isR : List Nat) (hC : isC.map (fun i => ws[i]?) = wc.map some) (hCn : va_nd isC = true) (hR : isR.map (fun i => ws[i]?) = wr.map some) (hRn : va_nd isR = true) (hdis : ∀ i ∈ isR, i ∉ isC) (hk : av.length = k) (hst : av.reverse ++ .ref a :: st = st0) (hcat : (st.map fun v => v.category).sum ≤ 8) (hfr : fr + 1 ≤ R.frames) (hlo : 8 + (n + 11) + lo ≤ R.locals) (hcs : cells + mc ≤ R.cells) (hss : slots + ms ≤ R.slots) (kk : ∀ (v : Int32) (w1 : va_W), post v w1 → G (cells + mc) (slots + ms) (pc + 3) lv (.int v :: st) (wr ++ w1)) : G cells slots pc lv (st0) ws := by
  obtain ⟨p, e, s, m, args, below, meth, c, Q, A, H0, ret, X, hini0, rfl⟩ := X
  exact g_callVNI X hM hY hlink hd q0 he hcl isC isR hC hCn hR hRn hdis hk hst hcat hfr hlo hcs hss kk
theorem x_callVNJ (X : eX l R G cc nL own D T ini) {post : Int64 → va_W → Prop} (hM : cJ l D T y b n r fr lo mc ms (.ref a :: av) wc post) (hY : eYV y b n r k) (hlink : Cond.methodLinkNest own index y host ∈ lw_nest) (hd : decode cc pc = .ok (.invokevirtual index, 3)) {Tt : u_T} {N : Nat} (q0 : Nat) (he : ws[q0]? = some (a, .inr (ci, fs))) (hcl : vwCl[ci]? = some (y.cls, Tt, N)) (isC isR : List Nat) (hC : isC.map (fun i => ws[i]?) = wc.map some) (hCn : va_nd isC = true) (hR : isR.map (fun i => ws[i]?) = wr.map some) (hRn : va_nd isR = true) (hdis : ∀ i ∈ isR, i ∉ isC) (hk : av.length = k) (hst : av.reverse ++ .ref a :: st = st0) (hcat : (st.map fun v => v.category).sum ≤ 8) (hfr : fr + 1 ≤ R.frames) (hlo : 8 + (n + 11) + lo ≤ R.locals) (hcs : cells + mc ≤ R.cells) (hss : slots + ms ≤ R.slots) (kk : ∀ (v : Int64) (w1 : va_W), post v w1 → G (cells + mc) (slots + ms) (pc + 3) lv (.long v :: st) (wr ++ w1)) : G cells slots pc lv (st0) ws := by
  obtain ⟨p, e, s, m, args, below, meth, c, Q, A, H0, ret, X, hini0, rfl⟩ := X
  exact g_callVNJ X hM hY hlink hd q0 he hcl isC isR hC hCn hR hRn hdis hk hst hcat hfr hlo hcs hss kk
theorem x_callVNV (X : eX l R G cc nL own D T ini) {post : va_W → Prop} (hM : cV l D T y b n r fr lo mc ms (.ref a :: av) wc post) (hY : eYV y b n r k) (hlink : Cond.methodLinkNest own index y host ∈ lw_nest) (hd : decode cc pc = .ok (.invokevirtual index, 3)) {Tt : u_T} {N : Nat} (q0 : Nat) (he : ws[q0]? = some (a, .inr (ci, fs))) (hcl : vwCl[ci]? = some (y.cls, Tt, N)) (isC isR : List Nat) (hC : isC.map (fun i => ws[i]?) = wc.map some) (hCn : va_nd isC = true) (hR : isR.map (fun i => ws[i]?) = wr.map some) (hRn : va_nd isR = true) (hdis : ∀ i ∈ isR, i ∉ isC) (hk : av.length = k) (hst : av.reverse ++ .ref a :: st = st0) (hcat : (st.map fun v => v.category).sum ≤ 8) (hfr : fr + 1 ≤ R.frames) (hlo : 8 + (n + 11) + lo ≤ R.locals) (hcs : cells + mc ≤ R.cells) (hss : slots + ms ≤ R.slots) (kk : ∀ (w1 : va_W), post w1 → G (cells + mc) (slots + ms) (pc + 3) lv (st) (wr ++ w1)) : G cells slots pc lv (st0) ws := by
  obtain ⟨p, e, s, m, args, below, meth, c, Q, A, H0, ret, X, hini0, rfl⟩ := X
  exact g_callVNV X hM hY hlink hd q0 he hcl isC isR hC hCn hR hRn hdis hk hst hcat hfr hlo hcs hss kk
theorem x_callINV (X : eX l R G cc nL own D T ini) {post : va_W → Prop} (hM : cV l D T y b n none fr lo mc ms (.ref a :: av) wc post) (hY : eYI y b n k) (hlink : Cond.methodLinkNest own index y host ∈ lw_nest) (hd : decode cc pc = .ok (.invokespecial index, 3)) (isC isR : List Nat) (hC : isC.map (fun i => ws[i]?) = wc.map some) (hCn : va_nd isC = true) (hR : isR.map (fun i => ws[i]?) = wr.map some) (hRn : va_nd isR = true) (hdis : ∀ i ∈ isR, i ∉ isC) (hk : av.length = k) (hst : av.reverse ++ .ref a :: st = st0) (hcat : (st.map fun v => v.category).sum ≤ 8) (hfr : fr + 1 ≤ R.frames) (hlo : 8 + (n + 11) + lo ≤ R.locals) (hcs : cells + mc ≤ R.cells) (hss : slots + ms ≤ R.slots) (kk : ∀ (w1 : va_W), post w1 → G (cells + mc) (slots + ms) (pc + 3) lv (st) (wr ++ w1)) : G cells slots pc lv (st0) ws := by
  obtain ⟨p, e, s, m, args, below, meth, c, Q, A, H0, ret, X, hini0, rfl⟩ := X
  exact g_callINV X hM hY hlink hd isC isR hC hCn hR hRn hdis hk hst hcat hfr hlo hcs hss kk
end XR
theorem xI_of {l : Launch} {D : eD} {T : Nat → ClassId} {y : MethodName} {b : ByteArray} {n : Nat} {r : Option FieldType} {fr lo mc ms : Nat} {av : List Value} {ws : va_W} {post : Int32 → va_W → Prop} {ty : FieldType} (hy : plainName y.cls = true) (hn : (lg_sl av).length ≤ n) (hr : r = some ty) 
    (k : ∀ (G : Nat → Nat → Nat → List (Nat × Value) → List Value → va_W → Prop) (_ : eX l (eR fr lo mc ms) G b n y.cls D T (y.name = "<init>")) (hret : ∀ (pc : Nat) (lv : List (Nat × Value)) (v : Int32) (w1 : va_W), decode b pc = .ok (.ireturn, 1) → narrow ty (.int v) = .int v → post v w1 → G mc ms pc lv [.int v] w1), G 0 0 0 (lv_args 0 av) [] ws) : cI l D T y b n r fr lo mc ms av ws post := by
  refine cI_of hy hn ?_
  intro p e s m args below meth c A X hD hA hin
  exact k _ ⟨p, e, s, m, args, below, meth, c, _, A, s.heap, r, X, hin, rfl⟩ (fun pc lv v w1 hd hn h => g_iret X hA hr hn hd h)
theorem xJ_of {l : Launch} {D : eD} {T : Nat → ClassId} {y : MethodName} {b : ByteArray} {n : Nat} {r : Option FieldType} {fr lo mc ms : Nat} {av : List Value} {ws : va_W} {post : Int64 → va_W → Prop} (hy : plainName y.cls = true) (hn : (lg_sl av).length ≤ n) (hr : r = some .long) 
    (k : ∀ (G : Nat → Nat → Nat → List (Nat × Value) → List Value → va_W → Prop) (_ : eX l (eR fr lo mc ms) G b n y.cls D T (y.name = "<init>")) (hret : ∀ (pc : Nat) (lv : List (Nat × Value)) (v : Int64) (w1 : va_W), decode b pc = .ok (.lreturn, 1) → post v w1 → G mc ms pc lv [.long v] w1), G 0 0 0 (lv_args 0 av) [] ws) : cJ l D T y b n r fr lo mc ms av ws post := by
  refine cJ_of hy hn ?_
  intro p e s m args below meth c A X hD hA hin
  exact k _ ⟨p, e, s, m, args, below, meth, c, _, A, s.heap, r, X, hin, rfl⟩ (fun pc lv v w1 hd h => g_lret X hA hr hd h)
theorem xV_of {l : Launch} {D : eD} {T : Nat → ClassId} {y : MethodName} {b : ByteArray} {n : Nat} {r : Option FieldType} {fr lo mc ms : Nat} {av : List Value} {ws : va_W} {post : va_W → Prop} (hy : plainName y.cls = true) (hn : (lg_sl av).length ≤ n) (hr : r = none) 
    (k : ∀ (G : Nat → Nat → Nat → List (Nat × Value) → List Value → va_W → Prop) (_ : eX l (eR fr lo mc ms) G b n y.cls D T (y.name = "<init>")) (hret : ∀ (pc : Nat) (lv : List (Nat × Value)) (w1 : va_W), decode b pc = .ok (.return_, 1) → post w1 → G mc ms pc lv [] w1), G 0 0 0 (lv_args 0 av) [] ws) : cV l D T y b n r fr lo mc ms av ws post := by
  refine cV_of hy hn ?_
  intro p e s m args below meth c A X hD hA hin
  exact k _ ⟨p, e, s, m, args, below, meth, c, _, A, s.heap, r, X, hin, rfl⟩ (fun pc lv w1 hd h => g_vret X hA hr hd h)
theorem e_nz {v : Int32} (h : v &&& 1 = v) : narrow .boolean (.int v) = .int v := by
  simp only [narrow, h]
theorem e_fz {v : Int32} (h : v &&& 1 = v) : fits .boolean (.int v) = true := by
  obtain ⟨j, hj, e⟩ := pk_andE v (m := 1) 1 (by decide)
  have e2 : v = nI j := h.symm.trans e
  subst e2
  rcases (show j = 0 ∨ j = 1 by omega) with rfl | rfl <;> decide
