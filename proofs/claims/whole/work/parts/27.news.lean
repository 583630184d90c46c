/-! rows for constructors -/
theorem x_objInit {l : Launch} {R : Room} {G : Nat → Nat → Nat → List (Nat × Value) → List Value → va_W → Prop} {cc : ByteArray} {nL : Nat} {own : String} {D : eD} {T : Nat → ClassId} {ini : Prop} {cells slots pc : Nat} {lv : List (Nat × Value)} {st : List Value} {ws : va_W} (X : eX l R G cc nL own D T ini) {idx a : Nat} (hlink : Cond.methodLink own idx Lib.objectInit ∈ lw_good) (hinst : Cond.instanceMethod Lib.objectInit ∈ lw_good) (hcode : Cond.code Lib.objectInit ⟨#[0xb1]⟩ 1 none ∈ lw_good) (hd : decode cc pc = .ok (.invokespecial idx, 3)) (hst : (st.map fun v => v.category).sum ≤ 8) (hfr : 1 ≤ R.frames) (hlo : 20 ≤ R.locals) (kk : G cells slots (pc + 3) lv st ws) : G cells slots pc lv (.ref a :: st) ws := by
  obtain ⟨p, e, s, m, args, below, meth, c, Q, A, H0, ret, X, hini, rfl⟩ := X
  intro H locs ls hP hD hS hl
  refine W.objInit X.1 X.2.1 X.2.2.2.1 (X.2.2.2.2.1 _ hlink) (X.2.2.2.2.1 _ hinst) (X.2.2.2.2.1 _ hcode) rfl (hl.1.trans X.2.2.1.symm) rfl hd hfr (by show 2 * 0 + _ + 12 ≤ _; omega) ?_
  exact kk H locs ls hP hD hS hl
theorem x_new {l : Launch} {R : Room} {G : Nat → Nat → Nat → List (Nat × Value) → List Value → va_W → Prop} {cc : ByteArray} {nL : Nat} {own : String} {D : eD} {T : Nat → ClassId} {ini : Prop} {cells slots pc : Nat} {lv : List (Nat × Value)} {st : List Value} {ws : va_W} (X : eX l R G cc nL own D T ini) {index : Nat} {C : String} {Tt : u_T} {N ci : Nat} {ty : Nat → FieldType} {fs : List Value} (hin : ∀ w ∈ u_ws C Tt N, w ∈ lw_good) (hty : ∀ k, k < N → parseFieldDescriptor (Tt k).2.2.1 = some (ty k)) (hcl : Cond.classLink own index C ∈ lw_good) (hinst : Cond.instantiable C N ∈ lw_good) (hi : Cond.initialized C ∈ lw_good) (hd : decode cc pc = .ok (.new index, 3)) (hc : vwCl[ci]? = some (C, Tt, N)) (hfs : ∀ j, j < N → defaultValue (ty j) = vp_V fs j) (hcells : cells + 1 ≤ R.cells) (hslots : slots + N ≤ R.slots) (kk : ∀ q : Nat, G (cells + 1) (slots + N) (pc + 3) lv (.ref q :: st) (ws ++ [(q, .inr (ci, fs))])) : G cells slots pc lv (st) ws := by
  obtain ⟨p, e, s, m, args, below, meth, c, Q, A, H0, ret, X, hini, rfl⟩ := X
  intro H locs ls hP hD hS hl
  exact va_new X.1 X.2.1 X.2.2.2.2.1 hin ty hty X.2.2.2.1 (X.2.2.2.2.1 _ hcl) (X.2.2.2.2.1 _ hinst) (X.2.2.2.2.1 _ hi) X.2.2.2.2.2.2.2.1 hP hD hS X.2.2.2.2.2.2.2.2.1 hc hfs hcells hslots hd (fun q H1 hP hD hS => kk q H1 locs ls hP hD hS hl)
theorem x_newaI {l : Launch} {R : Room} {G : Nat → Nat → Nat → List (Nat × Value) → List Value → va_W → Prop} {cc : ByteArray} {nL : Nat} {own : String} {D : eD} {T : Nat → ClassId} {ini : Prop} {cells slots pc : Nat} {lv : List (Nat × Value)} {st : List Value} {ws : va_W} (X : eX l R G cc nL own D T ini) {k : Int32} (n : Nat) (harr : Cond.arrayClass .int ∈ lw_good) (hn : ¬ k < 0) (hN : k.toNatClampNeg = n) (hb : n * componentBytes .int ≤ 536870912) (hcells : cells + 1 ≤ R.cells) (hslots : slots + n ≤ R.slots) (hd : decode cc pc = .ok (.newarray .int, 2)) (kk : ∀ q : Nat, G (cells + 1) (slots + n) (pc + 2) lv (.ref q :: st) (ws ++ [(q, aI T n (fun _ => 0))])) : G cells slots pc lv (.int k :: st) ws := by
  obtain ⟨p, e, s, m, args, below, meth, c, Q, A, H0, ret, X, hini, rfl⟩ := X
  intro H locs ls hP hD hS hl
  refine va_newa (atype := .int) X.1 X.2.1 (X.2.2.2.2.1 _ harr) rfl X.2.2.2.2.2.2.2.1 hP hD hS X.2.2.2.2.2.2.2.2.1 (a0 := (n, .inl (fun _ => 0))) (fun _ => rfl) hn hN hb hcells hslots hd (fun q cA H1 hK2 hP hD hS => ?_)
  have e1 : cA = T 1 := Option.some.inj ((show s.vm.findClass _ = some cA from (hK2.2 4 (cA, .int) rfl).2).symm.trans (show s.vm.findClass _ = some (T 1) from (X.2.2.2.2.2.2.2.1.2 1 (T 1, .int) rfl).2))
  subst e1
  exact kk q H1 locs ls hP hD hS hl
theorem x_newaJ {l : Launch} {R : Room} {G : Nat → Nat → Nat → List (Nat × Value) → List Value → va_W → Prop} {cc : ByteArray} {nL : Nat} {own : String} {D : eD} {T : Nat → ClassId} {ini : Prop} {cells slots pc : Nat} {lv : List (Nat × Value)} {st : List Value} {ws : va_W} (X : eX l R G cc nL own D T ini) {k : Int32} (n : Nat) (harr : Cond.arrayClass .long ∈ lw_good) (hn : ¬ k < 0) (hN : k.toNatClampNeg = n) (hb : n * componentBytes .long ≤ 536870912) (hcells : cells + 1 ≤ R.cells) (hslots : slots + n ≤ R.slots) (hd : decode cc pc = .ok (.newarray .long, 2)) (kk : ∀ q : Nat, G (cells + 1) (slots + n) (pc + 2) lv (.ref q :: st) (ws ++ [(q, aJ T n (fun _ => 0))])) : G cells slots pc lv (.int k :: st) ws := by
  obtain ⟨p, e, s, m, args, below, meth, c, Q, A, H0, ret, X, hini, rfl⟩ := X
  intro H locs ls hP hD hS hl
  refine va_newa (atype := .long) X.1 X.2.1 (X.2.2.2.2.1 _ harr) rfl X.2.2.2.2.2.2.2.1 hP hD hS X.2.2.2.2.2.2.2.2.1 (a0 := (n, .inr (.inl (fun _ => 0)))) (fun _ => rfl) hn hN hb hcells hslots hd (fun q cA H1 hK2 hP hD hS => ?_)
  have e1 : cA = T 2 := Option.some.inj ((show s.vm.findClass _ = some cA from (hK2.2 4 (cA, .long) rfl).2).symm.trans (show s.vm.findClass _ = some (T 2) from (X.2.2.2.2.2.2.2.1.2 2 (T 2, .long) rfl).2))
  subst e1
  exact kk q H1 locs ls hP hD hS hl
theorem x_newaB {l : Launch} {R : Room} {G : Nat → Nat → Nat → List (Nat × Value) → List Value → va_W → Prop} {cc : ByteArray} {nL : Nat} {own : String} {D : eD} {T : Nat → ClassId} {ini : Prop} {cells slots pc : Nat} {lv : List (Nat × Value)} {st : List Value} {ws : va_W} (X : eX l R G cc nL own D T ini) {k : Int32} (n : Nat) (harr : Cond.arrayClass .byte ∈ lw_good) (hn : ¬ k < 0) (hN : k.toNatClampNeg = n) (hb : n * componentBytes .byte ≤ 536870912) (hcells : cells + 1 ≤ R.cells) (hslots : slots + n ≤ R.slots) (hd : decode cc pc = .ok (.newarray .byte, 2)) (kk : ∀ q : Nat, G (cells + 1) (slots + n) (pc + 2) lv (.ref q :: st) (ws ++ [(q, aB T n (fun _ => 0))])) : G cells slots pc lv (.int k :: st) ws := by
  obtain ⟨p, e, s, m, args, below, meth, c, Q, A, H0, ret, X, hini, rfl⟩ := X
  intro H locs ls hP hD hS hl
  refine va_newa (atype := .byte) X.1 X.2.1 (X.2.2.2.2.1 _ harr) rfl X.2.2.2.2.2.2.2.1 hP hD hS X.2.2.2.2.2.2.2.2.1 (a0 := (n, .inl (fun _ => 0))) (fun _ => rfl) hn hN hb hcells hslots hd (fun q cA H1 hK2 hP hD hS => ?_)
  have e1 : cA = T 0 := Option.some.inj ((show s.vm.findClass _ = some cA from (hK2.2 4 (cA, .byte) rfl).2).symm.trans (show s.vm.findClass _ = some (T 0) from (X.2.2.2.2.2.2.2.1.2 0 (T 0, .byte) rfl).2))
  subst e1
  exact kk q H1 locs ls hP hD hS hl
theorem x_newaZ {l : Launch} {R : Room} {G : Nat → Nat → Nat → List (Nat × Value) → List Value → va_W → Prop} {cc : ByteArray} {nL : Nat} {own : String} {D : eD} {T : Nat → ClassId} {ini : Prop} {cells slots pc : Nat} {lv : List (Nat × Value)} {st : List Value} {ws : va_W} (X : eX l R G cc nL own D T ini) {k : Int32} (n : Nat) (harr : Cond.arrayClass .boolean ∈ lw_good) (hn : ¬ k < 0) (hN : k.toNatClampNeg = n) (hb : n * componentBytes .boolean ≤ 536870912) (hcells : cells + 1 ≤ R.cells) (hslots : slots + n ≤ R.slots) (hd : decode cc pc = .ok (.newarray .boolean, 2)) (kk : ∀ q : Nat, G (cells + 1) (slots + n) (pc + 2) lv (.ref q :: st) (ws ++ [(q, aZ T n (fun _ => 0))])) : G cells slots pc lv (.int k :: st) ws := by
  obtain ⟨p, e, s, m, args, below, meth, c, Q, A, H0, ret, X, hini, rfl⟩ := X
  intro H locs ls hP hD hS hl
  refine va_newa (atype := .boolean) X.1 X.2.1 (X.2.2.2.2.1 _ harr) rfl X.2.2.2.2.2.2.2.1 hP hD hS X.2.2.2.2.2.2.2.2.1 (a0 := (n, .inl (fun _ => 0))) (fun _ => rfl) hn hN hb hcells hslots hd (fun q cA H1 hK2 hP hD hS => ?_)
  have e1 : cA = T 3 := Option.some.inj ((show s.vm.findClass _ = some cA from (hK2.2 4 (cA, .boolean) rfl).2).symm.trans (show s.vm.findClass _ = some (T 3) from (X.2.2.2.2.2.2.2.1.2 3 (T 3, .boolean) rfl).2))
  subst e1
  exact kk q H1 locs ls hP hD hS hl
