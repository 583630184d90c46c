/-! THE CLAIM OUT OF ONE WALK OF THE LAW'S BODY. Your part is whole_start (and what it stands on); all else here is the same for every law, but numbers. -/
def R_law : String := "OrderlyNetsLaw"
def lw_P (b : Addr) (xs : List Int32) (args : Array Value) (s : State) : Prop := args = #[.ref b] ∧ s.IntsAt b xs ∧ xs.length ≤ 3072 ∧ (Jvm.Cond.and given_1 narrow_1).before args s = true
def lw_Q (_ : Array Value) (s : State) (o : Outcome) (t : State) : Prop := o = .returned (some (.int 1)) ∧ Framed s o t [] 601024 7293034
def lw_Z (below : List Frame) (a : Array Value) (s : State) : State → Prop := fun t => ∃ o, t.status = .running ∧ Ended t below o ∧ lw_Q a s o t
/-- the law's own end, with 1 on the stack, nothing written that was there before, its room as the claim has it -/
theorem lw_ret {p : Program} {l : Launch} {e : Env} {s : State} {m : MethodId} {below : List Frame} {meth : Method} {c : Code} {b : Nat} (hx : p.tables.exec = Jvm.exec) (hb : c.code = code) (hr : meth.sig.returnType = ret) (hlocks : meth.locks = false) {pc : Nat} {H : Heap} {ls : Array Slot} (hdg : decode code pc = .ok (.ireturn, 1)) : W p l e room_1 s m #[Value.ref b] below meth c H [] 601024 7293034 (lw_Z below #[Value.ref b] s) (F0 m pc ls [.int 1]) := by
  intro T hT X
  obtain ⟨fs, hret, hrun, hended, hW, hframe⟩ := X.leave (v := some (.int 1)) (hlocks := hlocks) (fun h => by rw [hr] at h; cases h)
  have hmeth' : T.vm.method? m = some meth := X.method'
  refine ⟨T.setFrames fs, ?_, .returned (some (.int 1)), hrun, hended, rfl, ⟨_, rfl⟩, hW, hframe⟩
  jvm_step X.here [X.here.top, hx, hb, hdg, hmeth', hr, ret, narrow_b1]
  (try refine ⟨rfl, ?_⟩); (try refine ⟨rfl, ?_⟩)
  first | (intro acts; rw [hret _ acts rfl rfl rfl]) | rw [hret _ _ rfl rfl rfl]
  exact Steps.refl _
/-- what holds at the law's entry: the machine, the code, the tables' words (any of lw_tbl by 'hts w (by decide +kernel)'), the script of L ints xs at the cell b, what the Statement gives of the start (any of its parts by flat_of_before) -/
def lw_At (p : Program) (s : State) (m : MethodId) (meth : Method) (c : Code) (b L : Nat) (xs : Nat → Int32) : Prop :=
  p.tables.exec = Jvm.exec ∧ c.code = code ∧ meth.sig.returnType = ret ∧ c.maxLocals = 8 ∧ s.vm.findClass R_law = some m.cls ∧ (∀ w ∈ lw_tbl, w.before #[Value.ref b] s = true) ∧ va_X b L xs s s.heap ∧ b < s.heap.size ∧ meth.locks = false ∧ (Jvm.Cond.and given_1 narrow_1).before #[Value.ref b] s = true

/-! the law's standing at its entry, out of what the Statement gives -/
def eTm (i : Nat) : Term := .string (eSown i) (eSidx i)
def eVm (i : Nat) : Term := .field (eTm i) "java/lang/String" "value" "[B"
def eAt (i : Nat) : List Cond := [.exactly (eTm i) "java/lang/String", .eq (.field (eTm i) "java/lang/String" "coder" "B") (.int 0), .arrayOf (eVm i) .byte, .eq (.length (eVm i)) (.int (Int32.ofNat (eLen i)))] ++ (List.range (eLen i)).map (fun j => .eq (.elem (eVm i) (.int (Int32.ofNat j))) (.int (eByt i j)))
def ePos (i : Nat) : Nat := ([71, 80, 88, 95, 105, 114, 120, 129, 140, 148, 156, 164, 174, 184, 215, 222, 252, 269, 284, 312, 328, 357, 380, 405, 446, 480, 513, 540, 567, 602, 620, 637, 654, 672, 699, 730, 764, 772, 781, 786, 796, 806, 814, 825, 835, 845, 852, 861, 870, 881, 892, 904, 913, 922, 930, 939, 944, 951] : List Nat).getD i 0
def lw_flat : List Cond := flatC (Jvm.Cond.and given_1 narrow_1)
theorem eAt_ok : ∀ i : Nat, i < 58 → (lw_flat.drop (ePos i)).take (4 + eLen i) = eAt i := by decide +kernel
theorem eAt_in {i : Nat} (hi : i < 58) {w : Cond} (hw : w ∈ eAt i) : w ∈ lw_flat := by
  rw [← eAt_ok i hi] at hw
  exact List.mem_of_mem_drop (List.mem_of_mem_take hw)
theorem eRef_ok : ∀ i : Nat, i < 58 → Cond.stringRef (eSown i) (eSidx i) (eStx i) ∈ lw_tbl := by decide +kernel
theorem eNC_ok : ∀ q ∈ eNC, Cond.not (Cond.castable q.1 q.2) ∈ lw_flat := by decide +kernel
theorem eLen_31 : ∀ i : Nat, i < 58 → eLen i < 2 ^ 31 := by decide +kernel
theorem eStr_of {args : Array Value} {s : State} {A : Nat → Prop} (hs : ∀ w ∈ lw_flat, w.before args s = true) (ht : ∀ w ∈ lw_tbl, w.before args s = true) (hA : ∀ a : Nat, a < s.heap.size → ¬ A a) {i : Nat} (hi : i < 58) :
    ∃ q : Nat × Nat, va_O "java/lang/String" q.1 A s s.heap ∧ va_OF "java/lang/String" "coder" "B" (.int 0) q.1 A s s.heap ∧ va_OF "java/lang/String" "value" "[B" (.ref q.2) q.1 A s s.heap ∧ va_T .byte q.2 (eLen i) (fun j => .int (eByt i j)) A s s.heap ∧ vk_R (eSown i) (eSidx i) (eStx i) q.1 s := by
  have hx : (Cond.exactly (eTm i) "java/lang/String").before args s = true := hs _ (eAt_in hi (by simp [eAt]))
  have hco : (Cond.eq (.field (eTm i) "java/lang/String" "coder" "B") (.int 0)).before args s = true := hs _ (eAt_in hi (by simp [eAt]))
  have har : (Cond.arrayOf (eVm i) .byte).before args s = true := hs _ (eAt_in hi (by simp [eAt]))
  have hle : (Cond.eq (.length (eVm i)) (.int (Int32.ofNat (eLen i)))).before args s = true := hs _ (eAt_in hi (by simp [eAt]))
  have hel : ∀ j : Nat, j < eLen i → (Cond.eq (.elem (eVm i) (.int (Int32.ofNat j))) (.int (eByt i j))).before args s = true := fun j hj => hs _ (eAt_in hi (by
    refine List.mem_append_right _ (List.mem_map.mpr ⟨j, List.mem_range.mpr hj, rfl⟩)))
  obtain ⟨a, c, cA, kA, q1, q2, q3, q4, q5, q6, -⟩ := Cond.exactly_spec (args := args) (first := s) (o := none) (s := s) (idx := []) (t := eTm i) (cls := "java/lang/String") hx
  obtain ⟨t, hT0, hT⟩ := va_Tof (f := fun j => .int (eByt i j)) (A := A) (eLen_31 i hi) har (va_eqt hle) (fun j hj => va_eqt (hel j hj)) hA
  exact ⟨(a, t), ⟨cA, q3, q5, by rw [q6]; exact q2, hA a (Array.getElem?_eq_some_iff.mp q3).1⟩, vk_OFof q1 (va_eqt hco) hA, vk_OFof q1 hT0 hA, hT, vk_R.of (ht _ (eRef_ok i hi)) q1⟩
theorem eArr_of {args : Array Value} {s : State} {ty : FieldType} (hp : ∀ C, ty ≠ .object C) (h : (Cond.arrayClass ty).before args s = true) : ∃ cA : ClassId, ArrOfT s cA ty ∧ va_RA s cA ty := by
  obtain ⟨cA, kA, comp, h1, h2, h3⟩ := Cond.arrayClass_spec h
  refine ⟨cA, fun n z => ⟨fun k h => (by cases h), kA, h2, comp, h3⟩, ?_⟩
  cases ty with
  | object C => exact absurd rfl (hp C)
  | _ => exact h1
set_option maxHeartbeats 4000000 in
theorem lw_stand {p : Program} {s : State} {m : MethodId} {meth : Method} {c : Code} {b L : Nat} {xs : Nat → Int32} (C0 : lw_At p s m meth c b L xs) : ∃ (D : eD) (T : Nat → ClassId), eC p s m #[Value.ref b] meth c code 8 RL ret D T (fun q : Nat => s.heap.size ≤ q) s.heap := by
  obtain ⟨hx, hb, hr, hml, hown, hts, hX, hbl, hlocks, hgv⟩ := id C0
  have hs : ∀ w ∈ lw_flat, w.before #[Value.ref b] s = true := flat_of_before _ hgv
  have hA : ∀ a : Nat, a < s.heap.size → ¬ (fun q : Nat => s.heap.size ≤ q) a := fun a h => Nat.not_le.mpr h
  obtain ⟨c1, i1, n1⟩ := u_known (C := RX1) (T := TX1) (N := 4) (n := 4) hts inX1 (hts (.instantiable RX1 4) (by decide +kernel))
  obtain ⟨c2, i2, n2⟩ := u_known (C := RX2) (T := TX2) (N := 12) (n := 12) hts inX2 (hts (.instantiable RX2 12) (by decide +kernel))
  obtain ⟨c3, i3, n3⟩ := u_known (C := RX3) (T := TX3) (N := 3) (n := 3) hts inX3 (hts (.instantiable RX3 3) (by decide +kernel))
  obtain ⟨c4, i4, n4⟩ := u_known (C := RX4) (T := TX4) (N := 4) (n := 4) hts inX4 (hts (.instantiable RX4 4) (by decide +kernel))
  obtain ⟨c5, i5, n5⟩ := u_known (C := RX5) (T := TX5) (N := 2) (n := 2) hts inX5 (hts (.instantiable RX5 2) (by decide +kernel))
  obtain ⟨c6, i6, n6⟩ := u_known (C := RX6) (T := TX6) (N := 15) (n := 15) hts inX6 (hts (.instantiable RX6 15) (by decide +kernel))
  obtain ⟨c7, i7, n7⟩ := u_known (C := RX7) (T := TX7) (N := 5) (n := 5) hts inX7 (hts (.instantiable RX7 5) (by decide +kernel))
  obtain ⟨c8, i8, n8⟩ := u_known (C := RX8) (T := TX8) (N := 5) (n := 5) hts inX8 (hts (.instantiable RX8 5) (by decide +kernel))
  obtain ⟨c9, i9, n9⟩ := u_known (C := RX9) (T := TX9) (N := 2) (n := 2) hts inX9 (hts (.instantiable RX9 2) (by decide +kernel))
  obtain ⟨c10, i10, n10⟩ := u_known (C := RX10) (T := TX10) (N := 4) (n := 4) hts inX10 (hts (.instantiable RX10 4) (by decide +kernel))
  obtain ⟨c11, i11, n11⟩ := u_known (C := RX11) (T := TX11) (N := 17) (n := 17) hts inX11 (hts (.instantiable RX11 17) (by decide +kernel))
  obtain ⟨c12, i12, n12⟩ := u_known (C := RX12) (T := TX12) (N := 34) (n := 34) hts inX12 (hts (.instantiable RX12 34) (by decide +kernel))
  obtain ⟨dC, dI, hKc⟩ : ∃ (dC : Nat → ClassId) (dI : Nat → Nat → Nat), ∀ (k : Nat) (q : vw_C), vwCl[k]? = some q → u_Kn s q.1 q.2.1 q.2.2 (dC k) (dI k) := by
    refine ⟨fun k => match k with | 0 => c1 | 1 => c2 | 2 => c3 | 3 => c4 | 4 => c5 | 5 => c6 | 6 => c7 | 7 => c8 | 8 => c9 | 9 => c10 | 10 => c11 | _ => c12, fun k => match k with | 0 => i1 | 1 => i2 | 2 => i3 | 3 => i4 | 4 => i5 | 5 => i6 | 6 => i7 | 7 => i8 | 8 => i9 | 9 => i10 | 10 => i11 | _ => i12, ?_⟩
    intro k q hq
    match k, hq with
    | 0, hq => cases hq; exact n1
    | 1, hq => cases hq; exact n2
    | 2, hq => cases hq; exact n3
    | 3, hq => cases hq; exact n4
    | 4, hq => cases hq; exact n5
    | 5, hq => cases hq; exact n6
    | 6, hq => cases hq; exact n7
    | 7, hq => cases hq; exact n8
    | 8, hq => cases hq; exact n9
    | 9, hq => cases hq; exact n10
    | 10, hq => cases hq; exact n11
    | 11, hq => cases hq; exact n12
    | k + 12, hq => simp [vwCl] at hq
  obtain ⟨t0, a0⟩ := eArr_of (ty := .byte) (fun C h => by cases h) (hts (.arrayClass .byte) (by decide +kernel))
  obtain ⟨t1, a1⟩ := eArr_of (ty := .int) (fun C h => by cases h) (hts (.arrayClass .int) (by decide +kernel))
  obtain ⟨t2, a2⟩ := eArr_of (ty := .long) (fun C h => by cases h) (hts (.arrayClass .long) (by decide +kernel))
  obtain ⟨t3, a3⟩ := eArr_of (ty := .boolean) (fun C h => by cases h) (hts (.arrayClass .boolean) (by decide +kernel))
  have h0 : ∀ i : Nat, ∃ q : Nat × Nat, i < 58 → va_O "java/lang/String" q.1 (fun q : Nat => s.heap.size ≤ q) s s.heap ∧ va_OF "java/lang/String" "coder" "B" (.int 0) q.1 (fun q : Nat => s.heap.size ≤ q) s s.heap ∧ va_OF "java/lang/String" "value" "[B" (.ref q.2) q.1 (fun q : Nat => s.heap.size ≤ q) s s.heap ∧ va_T .byte q.2 (eLen i) (fun j => .int (eByt i j)) (fun q : Nat => s.heap.size ≤ q) s s.heap ∧ vk_R (eSown i) (eSidx i) (eStx i) q.1 s := by
    intro i
    by_cases hi : i < 58
    · obtain ⟨q, hq⟩ := eStr_of hs hts hA hi
      exact ⟨q, fun _ => hq⟩
    · exact ⟨(0, 0), fun h => absurd h hi⟩
  obtain ⟨ad, had⟩ := Classical.axiomOfChoice h0
  refine ⟨((dC, dI), fun i => (ad i).1, fun i => (ad i).2), fun k => match k with | 0 => t0 | 1 => t1 | 2 => t2 | _ => t3, hx, hb, hml, hown, fun w hw => hts w (List.mem_filter.mp hw).1, hr, hlocks, ⟨hKc, ?_⟩, fun _ h => h, rfl, eN_of hts, ?_⟩
  · intro k q hq
    match k, hq with
    | 0, hq => cases hq; exact a0
    | 1, hq => cases hq; exact a1
    | 2, hq => cases hq; exact a2
    | 3, hq => cases hq; exact a3
    | k + 4, hq => simp [eT] at hq
  · refine ⟨va_Zof (hts (.laysStatic "java/lang/String" "COMPACT_STRINGS" "Z") (by decide +kernel)) (hts (.initialized "java/lang/String") (by decide +kernel)) (va_eqt (hs _ (by decide +kernel))) hA, va_Zqof (hts (.laysStatic "jdk/internal/util/Preconditions" "SIOOBE_FORMATTER" "Ljava/util/function/BiFunction;") (by decide +kernel)) (hts (.initialized "jdk/internal/util/Preconditions") (by decide +kernel)) (hs _ (by decide +kernel)) hA, vx_Zqof (hts (.laysStatic Bundle.tN "UNASSIGNED_STACK" Bundle.steD) (by decide +kernel)) (hts (.initialized Bundle.tN) (by decide +kernel)) (hs _ (by decide +kernel)) hA, vx_Zqof (hts (.laysStatic Bundle.tN "SUPPRESSED_SENTINEL" Bundle.listD) (by decide +kernel)) (hts (.initialized Bundle.tN) (by decide +kernel)) (hs _ (by decide +kernel)) hA, fun i hi => ?_, fun q hq => va_Nc.of (hs _ (eNC_ok q hq))⟩
    obtain ⟨g1, g2, g3, g4, g5⟩ := had i hi
    exact ⟨⟨g1, g2, g3, g4⟩, g5⟩
