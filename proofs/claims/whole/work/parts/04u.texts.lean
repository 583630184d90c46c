/-! text constants: what a method may do with one; the members of String that are called -/
theorem x_ldcS {l : Launch} {R : Room} {G : Nat → Nat → Nat → List (Nat × Value) → List Value → va_W → Prop} {cc : ByteArray} {nL : Nat} {own : String} {D : eD} {T : Nat → ClassId} {ini : Prop} {cells slots pc : Nat} {lv : List (Nat × Value)} {st : List Value} {ws : va_W} (X : eX l R G cc nL own D T ini) {index : Nat} (i : Nat) (hi : i < eNstr) (hio : eSown i = own) (his : eSidx i = index) (hd : decode cc pc = .ok (.ldc index, 2)) (kk : G cells slots (pc + 2) lv (.ref (D.2.1 i) :: st) ws) : G cells slots pc lv (st) ws := by
  obtain ⟨p, e, s, m, args, below, meth, c, Q, A, H0, ret, X, hini, rfl⟩ := X
  obtain ⟨hx, hb, hml, hown, hts, hr, hlocks, hK, hAA, hH, hN, hKK⟩ := X
  subst hH
  intro H locs ls hP hD hS hl
  subst hio; subst his
  exact va_ldcS hx hb hown (hKK.2.2.2.2.1 i hi).2 hd (kk H locs ls hP hD hS hl)
theorem e_ldcwS {p : Program} {l : Launch} {e : Env} {R : Room} {s : State} {m : MethodId} {args : Array Value} {below : List Frame} {meth : Method} {c : Code} {T : State} {locs : List Loc} {cells slots : Nat} (X : Stand p l e R s m args below meth c T locs cells slots) (hexec : p.tables.exec = Jvm.exec) {own tx : String} {index q : Nat} (hown : s.vm.findClass own = some m.cls) (hZ : vk_R own index tx q s) {g : JFrame} (hg : g.method = m) (hdg : decode c.code g.pc = .ok (.ldc_w index, 3)) : ∀ tg, Steps p.tables e below (T.setTop { g with pc := g.pc + 3, stack := .ref q :: g.stack }) tg → Steps p.tables e below (T.setTop g) tg := by
  obtain ⟨k, cf, i, q', hk, hcf, hcp, -, hr, hev⟩ := Cond.stringRef_spec hown hZ.1
  cases hZ.2.symm.trans hev
  obtain ⟨k1, hk1, he⟩ := X.warmed.alike.2.2 _ _ hk
  have hr1 : k1.resolved[index]? = some (some (.string q)) := by
    rcases X.warmed.entry hk hk1 index with h | ⟨h, -⟩
    · rw [h]; exact hr
    · rw [hr] at h; cases h
  intro tg hrest
  subst hg
  jvm_step X.here [hexec, hdg, ldc_w.wp_string (e := e) (s := T) (f := g) X.here.top hk1 (by rw [he]; exact hcf) hcp hr1]
  exact hrest
theorem x_ldcwS {l : Launch} {R : Room} {G : Nat → Nat → Nat → List (Nat × Value) → List Value → va_W → Prop} {cc : ByteArray} {nL : Nat} {own : String} {D : eD} {T : Nat → ClassId} {ini : Prop} {cells slots pc : Nat} {lv : List (Nat × Value)} {st : List Value} {ws : va_W} (X : eX l R G cc nL own D T ini) {index : Nat} (i : Nat) (hi : i < eNstr) (hio : eSown i = own) (his : eSidx i = index) (hd : decode cc pc = .ok (.ldc_w index, 3)) (kk : G cells slots (pc + 3) lv (.ref (D.2.1 i) :: st) ws) : G cells slots pc lv (st) ws := by
  obtain ⟨p, e, s, m, args, below, meth, c, Q, A, H0, ret, X, hini, rfl⟩ := X
  obtain ⟨hx, hb, hml, hown, hts, hr, hlocks, hK, hAA, hH, hN, hKK⟩ := X
  subst hH
  intro H locs ls hP hD hS hl
  subst hio; subst his
  intro T0 hT X0
  obtain ⟨t, a1, b1⟩ := kk H locs ls hP hD hS hl T0 hT X0
  exact ⟨t, e_ldcwS X0 hx hown (hKK.2.2.2.2.1 i hi).2 (g := F0 m pc ls st) rfl (by rw [hb]; exact hd) t a1, b1⟩
theorem x_getsC {l : Launch} {R : Room} {G : Nat → Nat → Nat → List (Nat × Value) → List Value → va_W → Prop} {cc : ByteArray} {nL : Nat} {own : String} {D : eD} {T : Nat → ClassId} {ini : Prop} {cells slots pc : Nat} {lv : List (Nat × Value)} {st : List Value} {ws : va_W} (X : eX l R G cc nL own D T ini) {index : Nat} (hlink : Cond.fieldLink own index "java/lang/String" "COMPACT_STRINGS" "Z" ∈ lw_good) (hd : decode cc pc = .ok (.getstatic index, 3)) (kk : G cells slots (pc + 3) lv (.int 1 :: st) ws) : G cells slots pc lv (st) ws := by
  obtain ⟨p, e, s, m, args, below, meth, c, Q, A, H0, ret, X, hini, rfl⟩ := X
  obtain ⟨hx, hb, hml, hown, hts, hr, hlocks, hK, hAA, hH, hN, hKK⟩ := X
  subst hH
  intro H locs ls hP hD hS hl
  exact va_gets hx hb hKK.1 hS hown (hts _ hlink) (fun _ h => h) hd (kk H locs ls hP hD hS hl)
theorem x_getsF {l : Launch} {R : Room} {G : Nat → Nat → Nat → List (Nat × Value) → List Value → va_W → Prop} {cc : ByteArray} {nL : Nat} {own : String} {D : eD} {T : Nat → ClassId} {ini : Prop} {cells slots pc : Nat} {lv : List (Nat × Value)} {st : List Value} {ws : va_W} (X : eX l R G cc nL own D T ini) {index : Nat} (hlink : Cond.fieldLink own index "jdk/internal/util/Preconditions" "SIOOBE_FORMATTER" "Ljava/util/function/BiFunction;" ∈ lw_good) (hd : decode cc pc = .ok (.getstatic index, 3)) (kk : ∀ v : Value, (v = .null ∨ ∃ t : Nat, v = .ref t) → G cells slots (pc + 3) lv (v :: st) ws) : G cells slots pc lv (st) ws := by
  obtain ⟨p, e, s, m, args, below, meth, c, Q, A, H0, ret, X, hini, rfl⟩ := X
  obtain ⟨hx, hb, hml, hown, hts, hr, hlocks, hK, hAA, hH, hN, hKK⟩ := X
  subst hH
  intro H locs ls hP hD hS hl
  rcases hKK.2.1 with hz | ⟨t, hz⟩
  · exact va_gets hx hb hz hS hown (hts _ hlink) (fun _ h => h) hd (kk _ (Or.inl rfl) H locs ls hP hD hS hl)
  · exact va_gets hx hb hz hS hown (hts _ hlink) (fun _ h => h) hd (kk _ (Or.inr ⟨t, rfl⟩) H locs ls hP hD hS hl)
theorem x_getCo {l : Launch} {R : Room} {G : Nat → Nat → Nat → List (Nat × Value) → List Value → va_W → Prop} {cc : ByteArray} {nL : Nat} {own : String} {D : eD} {T : Nat → ClassId} {ini : Prop} {cells slots pc : Nat} {lv : List (Nat × Value)} {st : List Value} {ws : va_W} (X : eX l R G cc nL own D T ini) {index : Nat} (i : Nat) (hi : i < eNstr) (hlink : Cond.fieldLink own index "java/lang/String" "coder" "B" ∈ lw_good) (hd : decode cc pc = .ok (.getfield index, 3)) (kk : G cells slots (pc + 3) lv (.int 0 :: st) ws) : G cells slots pc lv (.ref (D.2.1 i) :: st) ws := by
  obtain ⟨p, e, s, m, args, below, meth, c, Q, A, H0, ret, X, hini, rfl⟩ := X
  obtain ⟨hx, hb, hml, hown, hts, hr, hlocks, hK, hAA, hH, hN, hKK⟩ := X
  subst hH
  intro H locs ls hP hD hS hl
  exact vk_getf hx hb (hKK.2.2.2.2.1 i hi).1.2.1 hS hown (hts _ hlink) (fun _ h => h) hd (kk H locs ls hP hD hS hl)
theorem x_getVa {l : Launch} {R : Room} {G : Nat → Nat → Nat → List (Nat × Value) → List Value → va_W → Prop} {cc : ByteArray} {nL : Nat} {own : String} {D : eD} {T : Nat → ClassId} {ini : Prop} {cells slots pc : Nat} {lv : List (Nat × Value)} {st : List Value} {ws : va_W} (X : eX l R G cc nL own D T ini) {index : Nat} (i : Nat) (hi : i < eNstr) (hlink : Cond.fieldLink own index "java/lang/String" "value" "[B" ∈ lw_good) (hd : decode cc pc = .ok (.getfield index, 3)) (kk : G cells slots (pc + 3) lv (.ref (D.2.2 i) :: st) ws) : G cells slots pc lv (.ref (D.2.1 i) :: st) ws := by
  obtain ⟨p, e, s, m, args, below, meth, c, Q, A, H0, ret, X, hini, rfl⟩ := X
  obtain ⟨hx, hb, hml, hown, hts, hr, hlocks, hK, hAA, hH, hN, hKK⟩ := X
  subst hH
  intro H locs ls hP hD hS hl
  exact vk_getf hx hb (hKK.2.2.2.2.1 i hi).1.2.2.1 hS hown (hts _ hlink) (fun _ h => h) hd (kk H locs ls hP hD hS hl)
theorem x_alenS {l : Launch} {R : Room} {G : Nat → Nat → Nat → List (Nat × Value) → List Value → va_W → Prop} {cc : ByteArray} {nL : Nat} {own : String} {D : eD} {T : Nat → ClassId} {ini : Prop} {cells slots pc : Nat} {lv : List (Nat × Value)} {st : List Value} {ws : va_W} (X : eX l R G cc nL own D T ini) (i : Nat) (hi : i < eNstr) (hd : decode cc pc = .ok (.arraylength, 1)) (kk : G cells slots (pc + 1) lv (.int (nI (eLen i)) :: st) ws) : G cells slots pc lv (.ref (D.2.2 i) :: st) ws := by
  obtain ⟨p, e, s, m, args, below, meth, c, Q, A, H0, ret, X, hini, rfl⟩ := X
  obtain ⟨hx, hb, hml, hown, hts, hr, hlocks, hK, hAA, hH, hN, hKK⟩ := X
  subst hH
  intro H locs ls hP hD hS hl
  exact va_tlen hx hb (hKK.2.2.2.2.1 i hi).1.2.2.2 hS (v := nI (eLen i)) rfl hd (kk H locs ls hP hD hS hl)
theorem x_baldS {l : Launch} {R : Room} {G : Nat → Nat → Nat → List (Nat × Value) → List Value → va_W → Prop} {cc : ByteArray} {nL : Nat} {own : String} {D : eD} {T : Nat → ClassId} {ini : Prop} {cells slots pc : Nat} {lv : List (Nat × Value)} {st : List Value} {ws : va_W} (X : eX l R G cc nL own D T ini) (i : Nat) (hi : i < eNstr) {j : Int32} (hin : vp_in j (eLen i)) (hd : decode cc pc = .ok (.baload, 1)) (kk : G cells slots (pc + 1) lv (.int (eByt i j.toNatClampNeg) :: st) ws) : G cells slots pc lv (.int j :: .ref (D.2.2 i) :: st) ws := by
  obtain ⟨p, e, s, m, args, below, meth, c, Q, A, H0, ret, X, hini, rfl⟩ := X
  obtain ⟨hx, hb, hml, hown, hts, hr, hlocks, hK, hAA, hH, hN, hKK⟩ := X
  subst hH
  intro H locs ls hP hD hS hl
  exact va_tb hx hb (hKK.2.2.2.2.1 i hi).1.2.2.2 hS hin rfl hd (kk H locs ls hP hD hS hl)
theorem x_i2c {l : Launch} {R : Room} {G : Nat → Nat → Nat → List (Nat × Value) → List Value → va_W → Prop} {cc : ByteArray} {nL : Nat} {own : String} {D : eD} {T : Nat → ClassId} {ini : Prop} {cells slots pc : Nat} {lv : List (Nat × Value)} {st : List Value} {ws : va_W} (X : eX l R G cc nL own D T ini) {x : Int32} (hd : decode cc pc = .ok (.i2c, 1)) (kk : G cells slots (pc + 1) lv (.int (x.toUInt32 % 65536).toInt32 :: st) ws) : G cells slots pc lv (.int x :: st) ws := by
  obtain ⟨p, e, s, m, args, below, meth, c, Q, A, H0, ret, X, hini, rfl⟩ := X
  obtain ⟨hx, hb, hml, hown, hts, hr, hlocks, hK, hAA, hH, hN, hKK⟩ := X
  subst hH
  intro H locs ls hP hD hS hl
  exact lv_i2c hx hb hd rfl (kk H locs ls hP hD hS hl)
theorem x_callVS {l : Launch} {R : Room} {G : Nat → Nat → Nat → List (Nat × Value) → List Value → va_W → Prop} {cc : ByteArray} {nL : Nat} {own : String} {D : eD} {T : Nat → ClassId} {ini : Prop} {cells slots pc : Nat} {lv : List (Nat × Value)} {st st0 : List Value} {ws : va_W} (X : eX l R G cc nL own D T ini) {post : Int32 → va_W → Prop} {y : MethodName} {b : ByteArray} {n k fr lo index : Nat} {r : Option FieldType} {av : List Value} (i : Nat) (hi : i < eNstr) (hM : cI l D T y b n r fr lo 0 0 (.ref (D.2.1 i) :: av) [] post) (hcs : y.cls = "java/lang/String") (hY : eYV y b n r k) (hlink : Cond.methodLink own index y ∈ lw_good) (hd : decode cc pc = .ok (.invokevirtual index, 3)) (hk : av.length = k) (hst : av.reverse ++ .ref (D.2.1 i) :: st = st0) (hcat : (st.map fun v => v.category).sum ≤ 8) (hfr : fr + 1 ≤ R.frames) (hlo : 8 + (n + 11) + lo ≤ R.locals) (hc : cells ≤ R.cells) (hs : slots ≤ R.slots) (hw0 : ∀ (v : Int32) (w1 : va_W), post v w1 → w1 = []) (kk : ∀ v : Int32, post v [] → G cells slots (pc + 3) lv (.int v :: st) ws) : G cells slots pc lv st0 ws := by
  obtain ⟨p, e, s, m, args, below, meth, c, Q, A, H0, ret, X, hini, rfl⟩ := X
  have hX := X
  obtain ⟨hx, hb, hml, hown, hts, hr, hlocks, hK, hAA, hH, hN, hKK⟩ := X
  subst hH
  intro H locs ls hP hD hS hl
  have hPc : va_P D.1 vwCl [] H := fun k q h => by simp at h
  have hDc : va_D A [] := ⟨fun i j p q h => by simp at h, fun k q h => by simp at h⟩
  have hFc : ∀ q, va_A [] H.size q → A q := va_free (wc := []) hD hS hAA [] rfl
  have hrc : ∃ cell : Cell, H[D.2.1 i]? = some cell ∧ cell.vm.isStatics = false ∧ s.vm.findClass y.cls = some cell.cls := by
    obtain ⟨cell, h1, h2, h3, -⟩ := (hKK.2.2.2.2.1 i hi).1.1.kept hS.2.1
    exact ⟨cell, h1, h2, by rw [hcs]; exact h3⟩
  refine va_calli (va_runV ⟨hx, hb, hml, hown, hts⟩ (hM H.size) (cwV k hts (eW_V hY hlink) rfl rfl rfl ⟨rfl, hY.2.2.2.2.1, hY.2.2.2.2.2.1, hY.2.2.2.2.2.2⟩ ⟨hfr, hlo⟩) ⟨ePc_blind, hrc, fun U hU hW => ⟨rfl, by rw [hU], by rw [hU]; exact hPc, va_K.moved hW.alike hK, hDc.weaken (fun _ _ _ _ => trivial), eN_warm hW hN, by rw [hU]; exact eK.warm hW ((hKK.kept hS.2.1).narrow hFc)⟩⟩ rfl hk hl.1 hst.symm (lv_room hcat) hd ⟨hc, hs⟩) hS (fun q _ h => hFc q h) hFc (fun r1 u t H1 locs ht hvm hw hB hz1 hk1 hS => ?_)
  have hu := hw0 _ _ hw
  subst hu
  refine kk r1 hw H1 locs ls ?_ hD hS hl
  exact va_P.kept hP (fun k q hq => hk1 q.1 (vx_lt hP hq) (fun h => (h.elim (fun h => by obtain ⟨k, e, h⟩ := h; simp at h) (fun h => absurd (vx_lt hP hq) (Nat.not_lt.mpr h)))))
