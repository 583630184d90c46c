/-! methods with handlers of their own: they return, whatever their callee throws -/
def eWH (y : MethodName) (b : ByteArray) (n : Nat) (r : Option FieldType) (hh : List (Nat × Nat × Nat × Nat)) : List Cond := .codeWith y b n r hh :: lw_good
theorem e_ofWH {l : Launch} {y : MethodName} {ws ws' : List Cond} {rm : Room} {Pc : Array Value → State → Prop} {Qc : Array Value → State → Outcome → State → Prop} {mc ms : Nat} {free : Addr → Prop} {cc : ByteArray} {maxL : Nat} {ret : Option FieldType} {hh : List (Nat × Nat × Nat × Nat)}
    (hy : plainName y.cls = true) (hw : ws = Cond.codeWith y cc maxL ret hh :: ws')
    (body : ∀ p e s m args below meth c s₁, BodyLoose p l y (headSpec ws rm) cc maxL ret e s m args below meth c s₁ → c.maxLocals = maxL → Pc args s →
      W p l e (headSpec ws rm).room s m args below meth c s.heap [] 0 0 (MQ below Qc args s mc ms free) (entryFrame m args maxL)) : Met l y ws rm Pc Qc mc ms free := by
  refine MetFree.of_bodyS (code := cc) (maxLocals := maxL) (ret := ret) hy ?_ ?_
  · intro args s m h hn
    obtain ⟨m9, meth, c, hn9, h1, h2, h3, h4, -, h5, h6, -⟩ := Cond.codeWith_spec (atoms_spec (ws := ws) h _ (by rw [hw]; exact List.mem_cons_self))
    cases hn.symm.trans hn9
    exact ⟨meth, c, h1, h2, h3, h4, h5, h6⟩
  · intro p e s m args below meth c s₁ B hml hP _
    have hh0 : s₁.heap = s.heap := by rw [B.state]; rfl
    obtain ⟨t, a1, o, b1, b2, b3⟩ := body p e s m args below meth c s₁ B hml hP s₁ hh0 (Stand.of_body B)
    exact ⟨t, o, a1, b1, b2, ⟨b3.1, b3.2⟩⟩
def hI (l : Launch) (D : eD) (T : Nat → ClassId) (y : MethodName) (b : ByteArray) (n : Nat) (r : Option FieldType) (hh : List (Nat × Nat × Nat × Nat)) (fr lo mc ms : Nat) (av : List Value) (ws : va_W) (post : Int32 → va_W → Prop) : Prop := ∀ sz : Nat, Met l y (eWH y b n r hh) { frames := fr, cells := mc, slots := ms, locals := lo } (ePc D T av ws sz) (va_Qi post (eB D T ws sz) (va_A ws sz)) mc ms (va_A ws sz)
def eXH (l : Launch) (R : Room) (G : Nat → Nat → Nat → List (Nat × Value) → List Value → va_W → Prop) (cc : ByteArray) (nL : Nat) (own : String) (D : eD) (T : Nat → ClassId) (hh : List (Nat × Nat × Nat × Nat)) : Prop :=
  ∃ (p : Program) (e : Env) (s : State) (m : MethodId) (args : Array Value) (below : List Frame) (meth : Method) (c : Code) (Q : State → Prop) (A : Nat → Prop) (H0 : Heap) (ret : Option FieldType), eC p s m args meth c cc nL own ret D T A H0 ∧ c.exceptionTable.toList = tableOf hh ∧ G = fun cells slots pc lv st ws => eG p l e R s m args below meth c Q nL D A H0 cells slots pc lv st ws
theorem eXH.x {l : Launch} {R : Room} {G : Nat → Nat → Nat → List (Nat × Value) → List Value → va_W → Prop} {cc : ByteArray} {nL : Nat} {own : String} {D : eD} {T : Nat → ClassId} {hh : List (Nat × Nat × Nat × Nat)} (h : eXH l R G cc nL own D T hh) : eX l R G cc nL own D T False := by
  obtain ⟨p, e, s, m, args, below, meth, c, Q, A, H0, ret, X, -, hG⟩ := h
  exact ⟨p, e, s, m, args, below, meth, c, Q, A, H0, ret, X, False.elim, hG⟩
theorem xH_of {l : Launch} {D : eD} {T : Nat → ClassId} {y : MethodName} {b : ByteArray} {n : Nat} {r : Option FieldType} {hh : List (Nat × Nat × Nat × Nat)} {fr lo mc ms : Nat} {av : List Value} {ws : va_W} {post : Int32 → va_W → Prop} {ty : FieldType} (hy : plainName y.cls = true) (hn : (lg_sl av).length ≤ n) (hr : r = some ty)
    (k : ∀ (G : Nat → Nat → Nat → List (Nat × Value) → List Value → va_W → Prop) (_ : eXH l (eR fr lo mc ms) G b n y.cls D T hh) (hret : ∀ (pc : Nat) (lv : List (Nat × Value)) (v : Int32) (w1 : va_W), decode b pc = .ok (.ireturn, 1) → narrow ty (.int v) = .int v → post v w1 → G mc ms pc lv [.int v] w1), G 0 0 0 (lv_args 0 av) [] ws) : hI l D T y b n r hh fr lo mc ms av ws post := by
  intro sz
  refine e_ofWH (cc := b) (maxL := n) (ret := r) (hh := hh) hy rfl ?_
  intro p e s m args below meth c s₁ B hml hv
  obtain ⟨rfl, hsz, hP, hK, hD0, hN, hKK⟩ := hv
  subst hsz
  have hts := atoms_spec (ws := eWH y b n r hh) B.pre
  have hown : s.vm.findClass y.cls = some m.cls := findClass_of_methodNamed B.named
  have hD := hD0.self (sz := s.heap.size)
  have htab := vx_table (x := y) B (hts _ List.mem_cons_self)
  have X : eC p s m (av.toArray) meth c b n y.cls r D T (va_A ws s.heap.size) s.heap := ⟨B.exec, B.bytes, hml, hown, fun w hw => hts w (List.mem_cons_of_mem _ hw), B.returns, B.notSynchronized, hK, fun q h => Or.inr h, rfl, hN, hKK⟩
  rw [lg_entry_eq]
  exact k _ ⟨p, e, s, m, _, below, meth, c, _, _, _, r, X, htab, rfl⟩ (fun pc lv v w1 hd hn h => g_iret X rfl hr hn hd h) s.heap [] _ hP hD va_S.rf (lv_entry av hn)
def eYH (y : MethodName) (b : ByteArray) (n : Nat) (r : Option FieldType) (hh : List (Nat × Nat × Nat × Nat)) (k : Nat) : Prop := Cond.codeWith y b n r hh ∈ lw_good ∧ Cond.static y ∈ lw_good ∧ Cond.initialized y.cls ∈ lw_good ∧ (y.cls ≠ "java/lang/invoke/MethodHandle" ∧ y.cls ≠ "java/lang/invoke/VarHandle" ∧ (parseMethodDescriptor y.desc).map (fun d => d.parameters.length) = some k)
theorem eW_H {y : MethodName} {b : ByteArray} {n k : Nat} {r : Option FieldType} {hh : List (Nat × Nat × Nat × Nat)} {own : String} {idx : Nat} (h : eYH y b n r hh k) (hl : Cond.methodLink own idx y ∈ lw_good) : GoodIn lw_good (va_wsS own idx y (eWH y b n r hh)) := fun w hw => by
  rcases List.mem_append.mp hw with hw | hw
  · rcases List.mem_cons.mp hw with rfl | hw
    · exact lw_goodIn _ hl
    rcases List.mem_cons.mp hw with rfl | hw
    · exact lw_goodIn _ h.2.1
    rcases List.mem_cons.mp hw with rfl | hw
    · exact lw_goodIn _ h.2.2.1
    exact absurd hw List.not_mem_nil
  · rcases List.mem_cons.mp hw with rfl | hw
    · exact lw_goodIn _ h.1
    · exact lw_goodIn _ hw
theorem x_ccallVI {l : Launch} {R : Room} {G : Nat → Nat → Nat → List (Nat × Value) → List Value → va_W → Prop} {cc : ByteArray} {nL : Nat} {own : String} {D : eD} {T : Nat → ClassId} {cells slots pc : Nat} {lv : List (Nat × Value)} {st st0 : List Value} {ws wc wr : va_W} {y : MethodName} {b : ByteArray} {n k fr lo mc ms index a ci : Nat} {r : Option FieldType} {av : List Value} {fs : List Value} {hh : List (Nat × Nat × Nat × Nat)} {px : String → va_W → Prop} {post : Int32 → va_W → Prop} (XH : eXH l R G cc nL own D T hh) (hM : tI l D T y b n r fr lo mc ms (.ref a :: av) wc post px) (hY : eYV y b n r k) (hlink : Cond.methodLink own index y ∈ lw_good) (hd : decode cc pc = .ok (.invokevirtual index, 3)) {Tt : u_T} {N : Nat} (q0 : Nat) (he : ws[q0]? = some (a, .inr (ci, fs))) (hcl : vwCl[ci]? = some (y.cls, Tt, N)) (isC isR : List Nat) (hC : isC.map (fun i => ws[i]?) = wc.map some) (hCn : va_nd isC = true) (hR : isR.map (fun i => ws[i]?) = wr.map some) (hRn : va_nd isR = true) (hdis : ∀ i ∈ isR, i ∉ isC) (hk : av.length = k) (hst : av.reverse ++ .ref a :: st = st0) (hcat : (st.map fun v => v.category).sum ≤ 8) (hfr : fr + 1 ≤ R.frames) (hlo : 8 + (n + 11) + lo ≤ R.locals) (hcs : cells + mc ≤ R.cells) (hss : slots + ms ≤ R.slots)
    (kx : ∀ (E : String) (w1 : va_W), px E w1 → ∃ (pre suf : List ExceptionTableEntry) (x : ExceptionTableEntry), tableOf hh = pre ++ x :: suf ∧ (∀ z ∈ pre, z.catchType ≠ 0 ∧ ∃ nm : String, Cond.classLink own z.catchType nm ∈ lw_good ∧ (E, nm) ∈ eNC) ∧ covers x pc = true ∧ x.catchType ≠ 0 ∧ Cond.classLink own x.catchType E ∈ lw_good ∧ Cond.castable E E ∈ lw_nest ∧ ∀ q : Nat, G (cells + mc) (slots + ms) x.handlerPc lv [.ref q] (wr ++ w1)) (kk : ∀ (v : Int32) (w1 : va_W), post v w1 → G (cells + mc) (slots + ms) (pc + 3) lv (.int v :: st) (wr ++ w1)) : G cells slots pc lv st0 ws := by
  obtain ⟨p, e, s, m, args, below, meth, c, Q, A, H0, ret, X, htab, rfl⟩ := XH
  intro H locs ls hP hD hS hl
  have hPc := hP.sub isC (e_fm hC)
  have hDc := hD.sub isC hCn hC
  have hK := X.2.2.2.2.2.2.2.1
  have hFc := va_free hD hS X.2.2.2.2.2.2.2.2.1 isC hC
  refine vx_calli (vx_runV ⟨X.1, X.2.1, X.2.2.1, X.2.2.2.1, X.2.2.2.2.1⟩ (hM H.size) (cwV k X.2.2.2.2.1 (eW_V hY hlink) rfl rfl rfl ⟨rfl, hY.2.2.2.2.1, hY.2.2.2.2.2.1, hY.2.2.2.2.2.2⟩ ⟨hfr, hlo⟩) ⟨ePc_blind, va_recv hK hP hcl he, fun U hU hW => ⟨rfl, by rw [hU], by rw [hU]; exact hPc, va_K.moved hW.alike hK, hDc.weaken (fun _ _ _ _ => trivial), eN_warm hW X.2.2.2.2.2.2.2.2.2.2.1, by rw [hU]; exact eK.warm hW ((X.2.2.2.2.2.2.2.2.2.2.2.kept hS.2.1).narrow hFc)⟩⟩ rfl hk hl.1 hst.symm (lv_room hcat) hd ⟨hcs, hss⟩) hS (fun q _ h => hFc q h) hFc (fun q _ h => hFc q h) (fun E ce q9 u t H1 locs ht hvm hw hB hz1 hk1 hS hce hcv hcc => ?_) (fun r1 u t H1 locs ht hvm hw hB hz1 hk1 hS => ?_)
  · obtain ⟨rfl, hP1, hK1, hD1⟩ := hB
    rw [ht] at hP1
    obtain ⟨hP, hD⟩ := va_join hP hD isC isR hC hR hRn hdis hk1 hFc hP1 hD1
    obtain ⟨pre, suf, x, h1, h2, h3, h4, h5, h6, h7⟩ := kx _ _ hw
    refine vx_catch X.2.2.2.1 pre x suf (htab.trans h1) (fun z hz => ?_) h3 h4 (X.2.2.2.2.1 _ h5) (va_Nw.use (eN_tab h6) (X.2.2.2.2.2.2.2.2.2.2.1 _ h6)) hce hcv hcc (h7 q9 H1 locs ls hP hD hS hl)
    obtain ⟨z1, nm, z2, z3⟩ := h2 z hz
    exact Or.inr ⟨z1, nm, X.2.2.2.2.1 _ z2, X.2.2.2.2.2.2.2.2.2.2.2.2.2.2.2.2 _ z3⟩
  · obtain ⟨hP1, hK1, hD1⟩ := hB
    rw [ht] at hP1
    obtain ⟨hP, hD⟩ := va_join hP hD isC isR hC hR hRn hdis hk1 hFc hP1 hD1
    exact kk r1 u hw H1 locs ls hP hD hS hl
theorem x_ccallVJ {l : Launch} {R : Room} {G : Nat → Nat → Nat → List (Nat × Value) → List Value → va_W → Prop} {cc : ByteArray} {nL : Nat} {own : String} {D : eD} {T : Nat → ClassId} {cells slots pc : Nat} {lv : List (Nat × Value)} {st st0 : List Value} {ws wc wr : va_W} {y : MethodName} {b : ByteArray} {n k fr lo mc ms index a ci : Nat} {r : Option FieldType} {av : List Value} {fs : List Value} {hh : List (Nat × Nat × Nat × Nat)} {px : String → va_W → Prop} {post : Int64 → va_W → Prop} (XH : eXH l R G cc nL own D T hh) (hM : tJ l D T y b n r fr lo mc ms (.ref a :: av) wc post px) (hY : eYV y b n r k) (hlink : Cond.methodLink own index y ∈ lw_good) (hd : decode cc pc = .ok (.invokevirtual index, 3)) {Tt : u_T} {N : Nat} (q0 : Nat) (he : ws[q0]? = some (a, .inr (ci, fs))) (hcl : vwCl[ci]? = some (y.cls, Tt, N)) (isC isR : List Nat) (hC : isC.map (fun i => ws[i]?) = wc.map some) (hCn : va_nd isC = true) (hR : isR.map (fun i => ws[i]?) = wr.map some) (hRn : va_nd isR = true) (hdis : ∀ i ∈ isR, i ∉ isC) (hk : av.length = k) (hst : av.reverse ++ .ref a :: st = st0) (hcat : (st.map fun v => v.category).sum ≤ 8) (hfr : fr + 1 ≤ R.frames) (hlo : 8 + (n + 11) + lo ≤ R.locals) (hcs : cells + mc ≤ R.cells) (hss : slots + ms ≤ R.slots)
    (kx : ∀ (E : String) (w1 : va_W), px E w1 → ∃ (pre suf : List ExceptionTableEntry) (x : ExceptionTableEntry), tableOf hh = pre ++ x :: suf ∧ (∀ z ∈ pre, z.catchType ≠ 0 ∧ ∃ nm : String, Cond.classLink own z.catchType nm ∈ lw_good ∧ (E, nm) ∈ eNC) ∧ covers x pc = true ∧ x.catchType ≠ 0 ∧ Cond.classLink own x.catchType E ∈ lw_good ∧ Cond.castable E E ∈ lw_nest ∧ ∀ q : Nat, G (cells + mc) (slots + ms) x.handlerPc lv [.ref q] (wr ++ w1)) (kk : ∀ (v : Int64) (w1 : va_W), post v w1 → G (cells + mc) (slots + ms) (pc + 3) lv (.long v :: st) (wr ++ w1)) : G cells slots pc lv st0 ws := by
  obtain ⟨p, e, s, m, args, below, meth, c, Q, A, H0, ret, X, htab, rfl⟩ := XH
  intro H locs ls hP hD hS hl
  have hPc := hP.sub isC (e_fm hC)
  have hDc := hD.sub isC hCn hC
  have hK := X.2.2.2.2.2.2.2.1
  have hFc := va_free hD hS X.2.2.2.2.2.2.2.2.1 isC hC
  refine vx_calll (vx_runV ⟨X.1, X.2.1, X.2.2.1, X.2.2.2.1, X.2.2.2.2.1⟩ (hM H.size) (cwV k X.2.2.2.2.1 (eW_V hY hlink) rfl rfl rfl ⟨rfl, hY.2.2.2.2.1, hY.2.2.2.2.2.1, hY.2.2.2.2.2.2⟩ ⟨hfr, hlo⟩) ⟨ePc_blind, va_recv hK hP hcl he, fun U hU hW => ⟨rfl, by rw [hU], by rw [hU]; exact hPc, va_K.moved hW.alike hK, hDc.weaken (fun _ _ _ _ => trivial), eN_warm hW X.2.2.2.2.2.2.2.2.2.2.1, by rw [hU]; exact eK.warm hW ((X.2.2.2.2.2.2.2.2.2.2.2.kept hS.2.1).narrow hFc)⟩⟩ rfl hk hl.1 hst.symm (lv_room hcat) hd ⟨hcs, hss⟩) hS (fun q _ h => hFc q h) hFc (fun q _ h => hFc q h) (fun E ce q9 u t H1 locs ht hvm hw hB hz1 hk1 hS hce hcv hcc => ?_) (fun r1 u t H1 locs ht hvm hw hB hz1 hk1 hS => ?_)
  · obtain ⟨rfl, hP1, hK1, hD1⟩ := hB
    rw [ht] at hP1
    obtain ⟨hP, hD⟩ := va_join hP hD isC isR hC hR hRn hdis hk1 hFc hP1 hD1
    obtain ⟨pre, suf, x, h1, h2, h3, h4, h5, h6, h7⟩ := kx _ _ hw
    refine vx_catch X.2.2.2.1 pre x suf (htab.trans h1) (fun z hz => ?_) h3 h4 (X.2.2.2.2.1 _ h5) (va_Nw.use (eN_tab h6) (X.2.2.2.2.2.2.2.2.2.2.1 _ h6)) hce hcv hcc (h7 q9 H1 locs ls hP hD hS hl)
    obtain ⟨z1, nm, z2, z3⟩ := h2 z hz
    exact Or.inr ⟨z1, nm, X.2.2.2.2.1 _ z2, X.2.2.2.2.2.2.2.2.2.2.2.2.2.2.2.2 _ z3⟩
  · obtain ⟨hP1, hK1, hD1⟩ := hB
    rw [ht] at hP1
    obtain ⟨hP, hD⟩ := va_join hP hD isC isR hC hR hRn hdis hk1 hFc hP1 hD1
    exact kk r1 u hw H1 locs ls hP hD hS hl
theorem x_callH {l : Launch} {R : Room} {G : Nat → Nat → Nat → List (Nat × Value) → List Value → va_W → Prop} {cc : ByteArray} {nL : Nat} {own : String} {D : eD} {T : Nat → ClassId} {cells slots pc : Nat} {lv : List (Nat × Value)} {st st0 : List Value} {ws wc wr : va_W} {y : MethodName} {b : ByteArray} {n k fr lo mc ms index a ci : Nat} {r : Option FieldType} {av : List Value} {fs : List Value} {hh : List (Nat × Nat × Nat × Nat)} {post : Int32 → va_W → Prop} {ini : Prop} (XX : eX l R G cc nL own D T ini) (hM : hI l D T y b n r hh fr lo mc ms av wc post) (hY : eYH y b n r hh k) (hlink : Cond.methodLink own index y ∈ lw_good) (hd : decode cc pc = .ok (.invokestatic index, 3)) (isC isR : List Nat) (hC : isC.map (fun i => ws[i]?) = wc.map some) (hCn : va_nd isC = true) (hR : isR.map (fun i => ws[i]?) = wr.map some) (hRn : va_nd isR = true) (hdis : ∀ i ∈ isR, i ∉ isC) (hk : av.length = k) (hst : av.reverse ++ st = st0) (hcat : (st.map fun v => v.category).sum ≤ 8) (hfr : fr + 1 ≤ R.frames) (hlo : 8 + (n + 11) + lo ≤ R.locals) (hcs : cells + mc ≤ R.cells) (hss : slots + ms ≤ R.slots) (kk : ∀ (v : Int32) (w1 : va_W), post v w1 → G (cells + mc) (slots + ms) (pc + 3) lv (.int v :: st) (wr ++ w1)) : G cells slots pc lv st0 ws := by
  obtain ⟨p, e, s, m, args, below, meth, c, Q, A, H0, ret, X, hini, rfl⟩ := XX
  intro H locs ls hP hD hS hl
  have hPc := hP.sub isC (e_fm hC)
  have hDc := hD.sub isC hCn hC
  have hK := X.2.2.2.2.2.2.2.1
  have hFc := va_free hD hS X.2.2.2.2.2.2.2.2.1 isC hC
  refine va_calli (vx_runSW ⟨X.1, X.2.1, X.2.2.1, X.2.2.2.1, X.2.2.2.2.1⟩ (hM H.size) (vx_cwSW k X.2.2.2.2.1 (eW_H hY hlink) rfl rfl rfl hY.2.2.2 ⟨hfr, hlo⟩) ⟨ePc_blind, fun U hU hW => ⟨rfl, by rw [hU], by rw [hU]; exact hPc, va_K.moved hW.alike hK, hDc.weaken (fun _ _ _ _ => trivial), eN_warm hW X.2.2.2.2.2.2.2.2.2.2.1, by rw [hU]; exact eK.warm hW ((X.2.2.2.2.2.2.2.2.2.2.2.kept hS.2.1).narrow hFc)⟩⟩ rfl hk hl.1 hst.symm (lv_room hcat) hd ⟨hcs, hss⟩) hS (fun q _ h => hFc q h) hFc (fun r1 u t H1 locs ht hvm hw hB hz1 hk1 hS => ?_)
  obtain ⟨hP1, hK1, hD1⟩ := hB
  rw [ht] at hP1
  obtain ⟨hP, hD⟩ := va_join hP hD isC isR hC hR hRn hdis hk1 hFc hP1 hD1
  exact kk r1 u hw H1 locs ls hP hD hS hl
