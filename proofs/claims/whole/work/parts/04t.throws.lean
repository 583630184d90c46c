/-! methods that throw: contracts with a second post, the throw itself, calls that pass an exception on -/
def eBX (D : eD) (T : Nat → ClassId) (ws : va_W) (sz : Nat) : String → (String × va_W) → State → Prop := fun E u t => u.1 = E ∧ eB D T ws sz u.2 t
theorem va_P_more {D : va_G} {cl : List vw_C} {ws : va_W} {H H1 : Heap} (h : va_P D cl ws H) (hq : ∀ q : Nat, q < H.size → H1[q]? = H[q]?) : va_P D cl ws H1 := fun k q hk => (h k q hk).kept (hq q.1 (vx_lt h hk))
def tI (l : Launch) (D : eD) (T : Nat → ClassId) (y : MethodName) (b : ByteArray) (n : Nat) (r : Option FieldType) (fr lo mc ms : Nat) (av : List Value) (ws : va_W) (post : Int32 → va_W → Prop) (px : String → va_W → Prop) : Prop := ∀ sz : Nat, vx_Met l y (eW y b n r) { frames := fr, cells := mc, slots := ms, locals := lo } (ePc D T av ws sz) (va_Qi post (eB D T ws sz) (va_A ws sz)) (vx_X (fun u : String × va_W => px u.1 u.2) (eBX D T ws sz) (va_A ws sz)) mc ms (va_A ws sz)
def tJ (l : Launch) (D : eD) (T : Nat → ClassId) (y : MethodName) (b : ByteArray) (n : Nat) (r : Option FieldType) (fr lo mc ms : Nat) (av : List Value) (ws : va_W) (post : Int64 → va_W → Prop) (px : String → va_W → Prop) : Prop := ∀ sz : Nat, vx_Met l y (eW y b n r) { frames := fr, cells := mc, slots := ms, locals := lo } (ePc D T av ws sz) (va_Ql post (eB D T ws sz) (va_A ws sz)) (vx_X (fun u : String × va_W => px u.1 u.2) (eBX D T ws sz) (va_A ws sz)) mc ms (va_A ws sz)
def tV (l : Launch) (D : eD) (T : Nat → ClassId) (y : MethodName) (b : ByteArray) (n : Nat) (r : Option FieldType) (fr lo mc ms : Nat) (av : List Value) (ws : va_W) (post : va_W → Prop) (px : String → va_W → Prop) : Prop := ∀ sz : Nat, vx_Met l y (eW y b n r) { frames := fr, cells := mc, slots := ms, locals := lo } (ePc D T av ws sz) (va_Qv post (eB D T ws sz) (va_A ws sz)) (vx_X (fun u : String × va_W => px u.1 u.2) (eBX D T ws sz) (va_A ws sz)) mc ms (va_A ws sz)
/-- as eX, with the end of a method that may throw px -/
def eXT (l : Launch) (R : Room) (G : Nat → Nat → Nat → List (Nat × Value) → List Value → va_W → Prop) (cc : ByteArray) (nL : Nat) (own : String) (D : eD) (T : Nat → ClassId) (mc ms : Nat) (px : String → va_W → Prop) : Prop :=
  ∃ (p : Program) (e : Env) (s : State) (m : MethodId) (args : Array Value) (below : List Frame) (meth : Method) (c : Code) (Qc : Array Value → State → Outcome → State → Prop) (A : Nat → Prop) (ws0 : va_W) (ret : Option FieldType), eC p s m args meth c cc nL own ret D T A s.heap ∧ A = va_A ws0 s.heap.size ∧ (∀ x ∈ c.exceptionTable.toList, False) ∧ G = fun cells slots pc lv st ws => eG p l e R s m args below meth c (vx_MQ below Qc (vx_X (fun u : String × va_W => px u.1 u.2) (eBX D T ws0 s.heap.size) A) args s mc ms A) nL D A s.heap cells slots pc lv st ws
theorem eXT.x {l : Launch} {R : Room} {G : Nat → Nat → Nat → List (Nat × Value) → List Value → va_W → Prop} {cc : ByteArray} {nL : Nat} {own : String} {D : eD} {T : Nat → ClassId} {mc ms : Nat} {px : String → va_W → Prop} (h : eXT l R G cc nL own D T mc ms px) : eX l R G cc nL own D T False := by
  obtain ⟨p, e, s, m, args, below, meth, c, Qc, A, ws0, ret, X, -, -, hG⟩ := h
  exact ⟨p, e, s, m, args, below, meth, c, _, A, s.heap, ret, X, False.elim, hG⟩
/-- what a throw of a class needs of the tables -/
def eTh (own : String) (ik ic : Nat) (cls : String) (names : List String) : Prop := Bundle.fit cls = true ∧ (∀ n ∈ names, Bundle.fit n = true) ∧ Cond.classLink own ik cls ∈ lw_good ∧ Cond.initialized cls ∈ lw_good ∧ (∀ w ∈ vx_atS own ic cls names, w ∈ lw_tbl ∧ (goodWord w || eIsN w) = true) ∧ ∀ w ∈ Cond.classLink own ik cls :: Cond.initialized cls :: vx_atS own ic cls names, vx_ot w = true
theorem x_throw {l : Launch} {R : Room} {G : Nat → Nat → Nat → List (Nat × Value) → List Value → va_W → Prop} {cc : ByteArray} {nL : Nat} {own : String} {D : eD} {T : Nat → ClassId} {mc ms : Nat} {px : String → va_W → Prop} (XT : eXT l R G cc nL own D T mc ms px) {cells slots pc ik is ic : Nat} {cls : String} {names : List String} {lv : List (Nat × Value)} {st : List Value} {ws : va_W} (hl : l.stackTraces = false) (hT : eTh own ik ic cls names) (i : Nat) (hi : i < eNstr) (hio : eSown i = own) (his : eSidx i = is)
    (d0 : decode cc pc = .ok (.new ik, 3)) (d3 : decode cc (pc + 3) = .ok (.dup, 1)) (d4 : decode cc (pc + 4) = .ok (.ldc is, 2)) (d6 : decode cc (pc + 6) = .ok (.invokespecial ic, 3)) (d9 : decode cc (pc + 9) = .ok (.athrow, 1))
    (hfr : names.length + 3 < R.frames) (hst : (st.map fun v => v.category).sum ≤ 8) (hlo : 8 + (13 * (names.length + 1) + 43) ≤ R.locals) (hRc : cells + 1 ≤ R.cells) (hRs : slots + 6 ≤ R.slots) (hc : cells + 1 ≤ mc) (hs : slots + 6 ≤ ms) (h : px cls ws) : G cells slots pc lv st ws := by
  obtain ⟨p, e, s, m, args, below, meth, c, Qc, A, ws0, ret, X, hA, hno, rfl⟩ := XT
  subst hio; subst his
  obtain ⟨hx, hb, hml, hown, hts, hr, hlocks, hK, hAA, -, hN, hKK⟩ := X
  intro H locs ls hP hD hS hlv
  refine vx_throwS hx hb hl hown hT.1 hT.2.1 (hts _ hT.2.2.1) (hts _ hT.2.2.2.1) (hKK.2.2.2.2.1 i hi).2 (fun w hw => (Bool.or_eq_true _ _ ▸ (hT.2.2.2.2.1 w hw).2 : goodWord w = true ∨ eIsN w = true).elim (fun h9 => hts w (List.mem_filter.mpr ⟨(hT.2.2.2.2.1 w hw).1, h9⟩)) (fun h9 => va_Nw.use (eN_tab (List.mem_filter.mpr ⟨(hT.2.2.2.2.1 w hw).1, h9⟩)) (hN w (List.mem_filter.mpr ⟨(hT.2.2.2.2.1 w hw).1, h9⟩)))) hT.2.2.2.2.2 hKK.2.2.1 hKK.2.2.2.1 hS (hlv.1.trans hml.symm) d0 d3 d4 d6 d9 (fun x hx => (hno x hx).elim) hfr (by omega) hRc hRs hlocks ?_ hS.2.2 hc hs
  intro t hvm hz hq
  refine ⟨(cls, ws), h, ⟨rfl, va_P_more hP hq, va_K.moved hvm hK, hA ▸ hD⟩, Nat.le_trans hS.1 hz, fun q hq1 hq2 => ?_⟩
  rw [hq q (Nat.lt_of_lt_of_le hq1 hS.1)]
  exact hS.2.1 q hq1 hq2
theorem x_throwW {l : Launch} {R : Room} {G : Nat → Nat → Nat → List (Nat × Value) → List Value → va_W → Prop} {cc : ByteArray} {nL : Nat} {own : String} {D : eD} {T : Nat → ClassId} {mc ms : Nat} {px : String → va_W → Prop} (XT : eXT l R G cc nL own D T mc ms px) {cells slots pc ik is ic : Nat} {cls : String} {names : List String} {lv : List (Nat × Value)} {st : List Value} {ws : va_W} (hl : l.stackTraces = false) (hT : eTh own ik ic cls names) (i : Nat) (hi : i < eNstr) (hio : eSown i = own) (his : eSidx i = is)
    (d0 : decode cc pc = .ok (.new ik, 3)) (d3 : decode cc (pc + 3) = .ok (.dup, 1)) (d4 : decode cc (pc + 4) = .ok (.ldc_w is, 3)) (d6 : decode cc (pc + 7) = .ok (.invokespecial ic, 3)) (d9 : decode cc (pc + 10) = .ok (.athrow, 1))
    (hfr : names.length + 3 < R.frames) (hst : (st.map fun v => v.category).sum ≤ 8) (hlo : 8 + (13 * (names.length + 1) + 43) ≤ R.locals) (hRc : cells + 1 ≤ R.cells) (hRs : slots + 6 ≤ R.slots) (hc : cells + 1 ≤ mc) (hs : slots + 6 ≤ ms) (h : px cls ws) : G cells slots pc lv st ws := by
  obtain ⟨p, e, s, m, args, below, meth, c, Qc, A, ws0, ret, X, hA, hno, rfl⟩ := XT
  subst hio; subst his
  obtain ⟨hx, hb, hml, hown, hts, hr, hlocks, hK, hAA, -, hN, hKK⟩ := X
  intro H locs ls hP hD hS hlv
  refine vx_throwSW hx hb hl hown hT.1 hT.2.1 (hts _ hT.2.2.1) (hts _ hT.2.2.2.1) (hKK.2.2.2.2.1 i hi).2 (fun w hw => (Bool.or_eq_true _ _ ▸ (hT.2.2.2.2.1 w hw).2 : goodWord w = true ∨ eIsN w = true).elim (fun h9 => hts w (List.mem_filter.mpr ⟨(hT.2.2.2.2.1 w hw).1, h9⟩)) (fun h9 => va_Nw.use (eN_tab (List.mem_filter.mpr ⟨(hT.2.2.2.2.1 w hw).1, h9⟩)) (hN w (List.mem_filter.mpr ⟨(hT.2.2.2.2.1 w hw).1, h9⟩)))) hT.2.2.2.2.2 hKK.2.2.1 hKK.2.2.2.1 hS (hlv.1.trans hml.symm) d0 d3 d4 d6 d9 (fun x hx => (hno x hx).elim) hfr (by omega) hRc hRs hlocks ?_ hS.2.2 hc hs
  intro t hvm hz hq
  refine ⟨(cls, ws), h, ⟨rfl, va_P_more hP hq, va_K.moved hvm hK, hA ▸ hD⟩, Nat.le_trans hS.1 hz, fun q hq1 hq2 => ?_⟩
  rw [hq q (Nat.lt_of_lt_of_le hq1 hS.1)]
  exact hS.2.1 q hq1 hq2
theorem xtI_of {l : Launch} {D : eD} {T : Nat → ClassId} {y : MethodName} {b : ByteArray} {n : Nat} {r : Option FieldType} {fr lo mc ms : Nat} {av : List Value} {ws : va_W} {post : Int32 → va_W → Prop} {px : String → va_W → Prop} {ty : FieldType} (hy : plainName y.cls = true) (hn : (lg_sl av).length ≤ n) (hr : r = some ty) 
    (k : ∀ (G : Nat → Nat → Nat → List (Nat × Value) → List Value → va_W → Prop) (_ : eXT l (eR fr lo mc ms) G b n y.cls D T mc ms px) (hret : ∀ (pc : Nat) (lv : List (Nat × Value)) (v : Int32) (w1 : va_W), decode b pc = .ok (.ireturn, 1) → narrow ty (.int v) = .int v → post v w1 → G mc ms pc lv [.int v] w1), G 0 0 0 (lv_args 0 av) [] ws) : tI l D T y b n r fr lo mc ms av ws post px := by
  intro sz
  refine vx_ofW (cc := b) (maxL := n) (ret := r) hy rfl ?_
  intro p e s m args below meth c s₁ B hml hno hv
  obtain ⟨rfl, hsz, hP, hK, hD0, hN, hKK⟩ := hv
  subst hsz
  have hts := atoms_spec (ws := eW y b n r) B.pre
  have hown : s.vm.findClass y.cls = some m.cls := findClass_of_methodNamed B.named
  have hD := hD0.self (sz := s.heap.size)
  have X : eC p s m (av.toArray) meth c b n y.cls r D T (va_A ws s.heap.size) s.heap := ⟨B.exec, B.bytes, hml, hown, fun w hw => hts w (List.mem_cons_of_mem _ hw), B.returns, B.notSynchronized, hK, fun q h => Or.inr h, rfl, hN, hKK⟩
  rw [lg_entry_eq]
  exact k _ ⟨p, e, s, m, _, below, meth, c, _, _, ws, r, X, rfl, hno, rfl⟩ (fun pc lv v w1 hd hn h H locs ls hP hD hS hl => vx_ret (g_iret X rfl hr hn hd h H locs ls hP hD hS hl)) s.heap [] _ hP hD va_S.rf (lv_entry av hn)
theorem xtJ_of {l : Launch} {D : eD} {T : Nat → ClassId} {y : MethodName} {b : ByteArray} {n : Nat} {r : Option FieldType} {fr lo mc ms : Nat} {av : List Value} {ws : va_W} {post : Int64 → va_W → Prop} {px : String → va_W → Prop} (hy : plainName y.cls = true) (hn : (lg_sl av).length ≤ n) (hr : r = some .long) 
    (k : ∀ (G : Nat → Nat → Nat → List (Nat × Value) → List Value → va_W → Prop) (_ : eXT l (eR fr lo mc ms) G b n y.cls D T mc ms px) (hret : ∀ (pc : Nat) (lv : List (Nat × Value)) (v : Int64) (w1 : va_W), decode b pc = .ok (.lreturn, 1) → post v w1 → G mc ms pc lv [.long v] w1), G 0 0 0 (lv_args 0 av) [] ws) : tJ l D T y b n r fr lo mc ms av ws post px := by
  intro sz
  refine vx_ofW (cc := b) (maxL := n) (ret := r) hy rfl ?_
  intro p e s m args below meth c s₁ B hml hno hv
  obtain ⟨rfl, hsz, hP, hK, hD0, hN, hKK⟩ := hv
  subst hsz
  have hts := atoms_spec (ws := eW y b n r) B.pre
  have hown : s.vm.findClass y.cls = some m.cls := findClass_of_methodNamed B.named
  have hD := hD0.self (sz := s.heap.size)
  have X : eC p s m (av.toArray) meth c b n y.cls r D T (va_A ws s.heap.size) s.heap := ⟨B.exec, B.bytes, hml, hown, fun w hw => hts w (List.mem_cons_of_mem _ hw), B.returns, B.notSynchronized, hK, fun q h => Or.inr h, rfl, hN, hKK⟩
  rw [lg_entry_eq]
  exact k _ ⟨p, e, s, m, _, below, meth, c, _, _, ws, r, X, rfl, hno, rfl⟩ (fun pc lv v w1 hd h H locs ls hP hD hS hl => vx_ret (g_lret X rfl hr hd h H locs ls hP hD hS hl)) s.heap [] _ hP hD va_S.rf (lv_entry av hn)
theorem xtV_of {l : Launch} {D : eD} {T : Nat → ClassId} {y : MethodName} {b : ByteArray} {n : Nat} {r : Option FieldType} {fr lo mc ms : Nat} {av : List Value} {ws : va_W} {post : va_W → Prop} {px : String → va_W → Prop} (hy : plainName y.cls = true) (hn : (lg_sl av).length ≤ n) (hr : r = none) 
    (k : ∀ (G : Nat → Nat → Nat → List (Nat × Value) → List Value → va_W → Prop) (_ : eXT l (eR fr lo mc ms) G b n y.cls D T mc ms px) (hret : ∀ (pc : Nat) (lv : List (Nat × Value)) (w1 : va_W), decode b pc = .ok (.return_, 1) → post w1 → G mc ms pc lv [] w1), G 0 0 0 (lv_args 0 av) [] ws) : tV l D T y b n r fr lo mc ms av ws post px := by
  intro sz
  refine vx_ofW (cc := b) (maxL := n) (ret := r) hy rfl ?_
  intro p e s m args below meth c s₁ B hml hno hv
  obtain ⟨rfl, hsz, hP, hK, hD0, hN, hKK⟩ := hv
  subst hsz
  have hts := atoms_spec (ws := eW y b n r) B.pre
  have hown : s.vm.findClass y.cls = some m.cls := findClass_of_methodNamed B.named
  have hD := hD0.self (sz := s.heap.size)
  have X : eC p s m (av.toArray) meth c b n y.cls r D T (va_A ws s.heap.size) s.heap := ⟨B.exec, B.bytes, hml, hown, fun w hw => hts w (List.mem_cons_of_mem _ hw), B.returns, B.notSynchronized, hK, fun q h => Or.inr h, rfl, hN, hKK⟩
  rw [lg_entry_eq]
  exact k _ ⟨p, e, s, m, _, below, meth, c, _, _, ws, r, X, rfl, hno, rfl⟩ (fun pc lv w1 hd h H locs ls hP hD hS hl => vx_ret (g_vret X rfl hr hd h H locs ls hP hD hS hl)) s.heap [] _ hP hD va_S.rf (lv_entry av hn)
theorem x_tcallVI {l : Launch} {R : Room} {G : Nat → Nat → Nat → List (Nat × Value) → List Value → va_W → Prop} {cc : ByteArray} {nL : Nat} {own : String} {D : eD} {T : Nat → ClassId} {mc0 ms0 cells slots pc : Nat} {px0 : String → va_W → Prop} {lv : List (Nat × Value)} {st st0 : List Value} {ws wc wr : va_W} {y : MethodName} {b : ByteArray} {n k fr lo mc ms index a ci : Nat} {r : Option FieldType} {av : List Value} {fs : List Value} {px : String → va_W → Prop} {post : Int32 → va_W → Prop} (XT : eXT l R G cc nL own D T mc0 ms0 px0) (hM : tI l D T y b n r fr lo mc ms (.ref a :: av) wc post px) (hY : eYV y b n r k) (hlink : Cond.methodLink own index y ∈ lw_good) (hd : decode cc pc = .ok (.invokevirtual index, 3)) {Tt : u_T} {N : Nat} (q0 : Nat) (he : ws[q0]? = some (a, .inr (ci, fs))) (hcl : vwCl[ci]? = some (y.cls, Tt, N)) (isC isR : List Nat) (hC : isC.map (fun i => ws[i]?) = wc.map some) (hCn : va_nd isC = true) (hR : isR.map (fun i => ws[i]?) = wr.map some) (hRn : va_nd isR = true) (hdis : ∀ i ∈ isR, i ∉ isC) (hk : av.length = k) (hst : av.reverse ++ .ref a :: st = st0) (hcat : (st.map fun v => v.category).sum ≤ 8) (hfr : fr + 1 ≤ R.frames) (hlo : 8 + (n + 11) + lo ≤ R.locals) (hcs : cells + mc ≤ R.cells) (hss : slots + ms ≤ R.slots) (hc0 : cells + mc ≤ mc0) (hs0 : slots + ms ≤ ms0)
    (kx : ∀ (E : String) (w1 : va_W), px E w1 → ∃ (is : List Nat) (w2 : va_W), is.map (fun i => (wr ++ w1)[i]?) = w2.map some ∧ va_nd is = true ∧ px0 E w2) (kk : ∀ (v : Int32) (w1 : va_W), post v w1 → G (cells + mc) (slots + ms) (pc + 3) lv (.int v :: st) (wr ++ w1)) : G cells slots pc lv st0 ws := by
  obtain ⟨p, e, s, m, args, below, meth, c, Qc, A, ws0, ret, X, hA, hno, rfl⟩ := XT
  intro H locs ls hP hD hS hl
  have hPc := hP.sub isC (e_fm hC)
  have hDc := hD.sub isC hCn hC
  have hK := X.2.2.2.2.2.2.2.1
  have hFc := va_free hD hS X.2.2.2.2.2.2.2.2.1 isC hC
  refine vx_calli (vx_runV ⟨X.1, X.2.1, X.2.2.1, X.2.2.2.1, X.2.2.2.2.1⟩ (hM H.size) (cwV k X.2.2.2.2.1 (eW_V hY hlink) rfl rfl rfl ⟨rfl, hY.2.2.2.2.1, hY.2.2.2.2.2.1, hY.2.2.2.2.2.2⟩ ⟨hfr, hlo⟩) ⟨ePc_blind, va_recv hK hP hcl he, fun U hU hW => ⟨rfl, by rw [hU], by rw [hU]; exact hPc, va_K.moved hW.alike hK, hDc.weaken (fun _ _ _ _ => trivial), eN_warm hW X.2.2.2.2.2.2.2.2.2.2.1, by rw [hU]; exact eK.warm hW ((X.2.2.2.2.2.2.2.2.2.2.2.kept hS.2.1).narrow hFc)⟩⟩ rfl hk hl.1 hst.symm (lv_room hcat) hd ⟨hcs, hss⟩) hS (fun q _ h => hFc q h) hFc (fun q _ h => hFc q h) (fun E ce q9 u t H1 locs ht hvm hw hB hz1 hk1 hS hce hcv hcc => ?_) (fun r1 u t H1 locs ht hvm hw hB hz1 hk1 hS => ?_)
  · obtain ⟨rfl, hP1, hK1, hD1⟩ := hB
    rw [ht] at hP1
    obtain ⟨hP, hD⟩ := va_join hP hD isC isR hC hR hRn hdis hk1 hFc hP1 hD1
    obtain ⟨is, w2, h1, h2, h3⟩ := kx _ _ hw
    refine vx_out (fun x hx => (hno x hx).elim) X.2.2.2.2.2.2.1 hce hcv hcc (fun t2 ht2 hvm2 => ?_) hS.2.2 hc0 hs0
    exact ⟨(u.1, w2), h3, ⟨rfl, by rw [ht2]; exact hP.sub is (e_fm h1), va_K.moved hvm2 hK, hA ▸ hD.sub is h2 h1⟩, hS.F ht2⟩
  · obtain ⟨hP1, hK1, hD1⟩ := hB
    rw [ht] at hP1
    obtain ⟨hP, hD⟩ := va_join hP hD isC isR hC hR hRn hdis hk1 hFc hP1 hD1
    exact kk r1 u hw H1 locs ls hP hD hS hl
theorem x_tcallVJ {l : Launch} {R : Room} {G : Nat → Nat → Nat → List (Nat × Value) → List Value → va_W → Prop} {cc : ByteArray} {nL : Nat} {own : String} {D : eD} {T : Nat → ClassId} {mc0 ms0 cells slots pc : Nat} {px0 : String → va_W → Prop} {lv : List (Nat × Value)} {st st0 : List Value} {ws wc wr : va_W} {y : MethodName} {b : ByteArray} {n k fr lo mc ms index a ci : Nat} {r : Option FieldType} {av : List Value} {fs : List Value} {px : String → va_W → Prop} {post : Int64 → va_W → Prop} (XT : eXT l R G cc nL own D T mc0 ms0 px0) (hM : tJ l D T y b n r fr lo mc ms (.ref a :: av) wc post px) (hY : eYV y b n r k) (hlink : Cond.methodLink own index y ∈ lw_good) (hd : decode cc pc = .ok (.invokevirtual index, 3)) {Tt : u_T} {N : Nat} (q0 : Nat) (he : ws[q0]? = some (a, .inr (ci, fs))) (hcl : vwCl[ci]? = some (y.cls, Tt, N)) (isC isR : List Nat) (hC : isC.map (fun i => ws[i]?) = wc.map some) (hCn : va_nd isC = true) (hR : isR.map (fun i => ws[i]?) = wr.map some) (hRn : va_nd isR = true) (hdis : ∀ i ∈ isR, i ∉ isC) (hk : av.length = k) (hst : av.reverse ++ .ref a :: st = st0) (hcat : (st.map fun v => v.category).sum ≤ 8) (hfr : fr + 1 ≤ R.frames) (hlo : 8 + (n + 11) + lo ≤ R.locals) (hcs : cells + mc ≤ R.cells) (hss : slots + ms ≤ R.slots) (hc0 : cells + mc ≤ mc0) (hs0 : slots + ms ≤ ms0)
    (kx : ∀ (E : String) (w1 : va_W), px E w1 → ∃ (is : List Nat) (w2 : va_W), is.map (fun i => (wr ++ w1)[i]?) = w2.map some ∧ va_nd is = true ∧ px0 E w2) (kk : ∀ (v : Int64) (w1 : va_W), post v w1 → G (cells + mc) (slots + ms) (pc + 3) lv (.long v :: st) (wr ++ w1)) : G cells slots pc lv st0 ws := by
  obtain ⟨p, e, s, m, args, below, meth, c, Qc, A, ws0, ret, X, hA, hno, rfl⟩ := XT
  intro H locs ls hP hD hS hl
  have hPc := hP.sub isC (e_fm hC)
  have hDc := hD.sub isC hCn hC
  have hK := X.2.2.2.2.2.2.2.1
  have hFc := va_free hD hS X.2.2.2.2.2.2.2.2.1 isC hC
  refine vx_calll (vx_runV ⟨X.1, X.2.1, X.2.2.1, X.2.2.2.1, X.2.2.2.2.1⟩ (hM H.size) (cwV k X.2.2.2.2.1 (eW_V hY hlink) rfl rfl rfl ⟨rfl, hY.2.2.2.2.1, hY.2.2.2.2.2.1, hY.2.2.2.2.2.2⟩ ⟨hfr, hlo⟩) ⟨ePc_blind, va_recv hK hP hcl he, fun U hU hW => ⟨rfl, by rw [hU], by rw [hU]; exact hPc, va_K.moved hW.alike hK, hDc.weaken (fun _ _ _ _ => trivial), eN_warm hW X.2.2.2.2.2.2.2.2.2.2.1, by rw [hU]; exact eK.warm hW ((X.2.2.2.2.2.2.2.2.2.2.2.kept hS.2.1).narrow hFc)⟩⟩ rfl hk hl.1 hst.symm (lv_room hcat) hd ⟨hcs, hss⟩) hS (fun q _ h => hFc q h) hFc (fun q _ h => hFc q h) (fun E ce q9 u t H1 locs ht hvm hw hB hz1 hk1 hS hce hcv hcc => ?_) (fun r1 u t H1 locs ht hvm hw hB hz1 hk1 hS => ?_)
  · obtain ⟨rfl, hP1, hK1, hD1⟩ := hB
    rw [ht] at hP1
    obtain ⟨hP, hD⟩ := va_join hP hD isC isR hC hR hRn hdis hk1 hFc hP1 hD1
    obtain ⟨is, w2, h1, h2, h3⟩ := kx _ _ hw
    refine vx_out (fun x hx => (hno x hx).elim) X.2.2.2.2.2.2.1 hce hcv hcc (fun t2 ht2 hvm2 => ?_) hS.2.2 hc0 hs0
    exact ⟨(u.1, w2), h3, ⟨rfl, by rw [ht2]; exact hP.sub is (e_fm h1), va_K.moved hvm2 hK, hA ▸ hD.sub is h2 h1⟩, hS.F ht2⟩
  · obtain ⟨hP1, hK1, hD1⟩ := hB
    rw [ht] at hP1
    obtain ⟨hP, hD⟩ := va_join hP hD isC isR hC hR hRn hdis hk1 hFc hP1 hD1
    exact kk r1 u hw H1 locs ls hP hD hS hl
theorem x_tcallVV {l : Launch} {R : Room} {G : Nat → Nat → Nat → List (Nat × Value) → List Value → va_W → Prop} {cc : ByteArray} {nL : Nat} {own : String} {D : eD} {T : Nat → ClassId} {mc0 ms0 cells slots pc : Nat} {px0 : String → va_W → Prop} {lv : List (Nat × Value)} {st st0 : List Value} {ws wc wr : va_W} {y : MethodName} {b : ByteArray} {n k fr lo mc ms index a ci : Nat} {r : Option FieldType} {av : List Value} {fs : List Value} {px : String → va_W → Prop} {post : va_W → Prop} (XT : eXT l R G cc nL own D T mc0 ms0 px0) (hM : tV l D T y b n r fr lo mc ms (.ref a :: av) wc post px) (hY : eYV y b n r k) (hlink : Cond.methodLink own index y ∈ lw_good) (hd : decode cc pc = .ok (.invokevirtual index, 3)) {Tt : u_T} {N : Nat} (q0 : Nat) (he : ws[q0]? = some (a, .inr (ci, fs))) (hcl : vwCl[ci]? = some (y.cls, Tt, N)) (isC isR : List Nat) (hC : isC.map (fun i => ws[i]?) = wc.map some) (hCn : va_nd isC = true) (hR : isR.map (fun i => ws[i]?) = wr.map some) (hRn : va_nd isR = true) (hdis : ∀ i ∈ isR, i ∉ isC) (hk : av.length = k) (hst : av.reverse ++ .ref a :: st = st0) (hcat : (st.map fun v => v.category).sum ≤ 8) (hfr : fr + 1 ≤ R.frames) (hlo : 8 + (n + 11) + lo ≤ R.locals) (hcs : cells + mc ≤ R.cells) (hss : slots + ms ≤ R.slots) (hc0 : cells + mc ≤ mc0) (hs0 : slots + ms ≤ ms0)
    (kx : ∀ (E : String) (w1 : va_W), px E w1 → ∃ (is : List Nat) (w2 : va_W), is.map (fun i => (wr ++ w1)[i]?) = w2.map some ∧ va_nd is = true ∧ px0 E w2) (kk : ∀ (w1 : va_W), post w1 → G (cells + mc) (slots + ms) (pc + 3) lv st (wr ++ w1)) : G cells slots pc lv st0 ws := by
  obtain ⟨p, e, s, m, args, below, meth, c, Qc, A, ws0, ret, X, hA, hno, rfl⟩ := XT
  intro H locs ls hP hD hS hl
  have hPc := hP.sub isC (e_fm hC)
  have hDc := hD.sub isC hCn hC
  have hK := X.2.2.2.2.2.2.2.1
  have hFc := va_free hD hS X.2.2.2.2.2.2.2.2.1 isC hC
  refine vx_callv (vx_runV ⟨X.1, X.2.1, X.2.2.1, X.2.2.2.1, X.2.2.2.2.1⟩ (hM H.size) (cwV k X.2.2.2.2.1 (eW_V hY hlink) rfl rfl rfl ⟨rfl, hY.2.2.2.2.1, hY.2.2.2.2.2.1, hY.2.2.2.2.2.2⟩ ⟨hfr, hlo⟩) ⟨ePc_blind, va_recv hK hP hcl he, fun U hU hW => ⟨rfl, by rw [hU], by rw [hU]; exact hPc, va_K.moved hW.alike hK, hDc.weaken (fun _ _ _ _ => trivial), eN_warm hW X.2.2.2.2.2.2.2.2.2.2.1, by rw [hU]; exact eK.warm hW ((X.2.2.2.2.2.2.2.2.2.2.2.kept hS.2.1).narrow hFc)⟩⟩ rfl hk hl.1 hst.symm (lv_room hcat) hd ⟨hcs, hss⟩) hS (fun q _ h => hFc q h) hFc (fun q _ h => hFc q h) (fun E ce q9 u t H1 locs ht hvm hw hB hz1 hk1 hS hce hcv hcc => ?_) (fun u t H1 locs ht hvm hw hB hz1 hk1 hS => ?_)
  · obtain ⟨rfl, hP1, hK1, hD1⟩ := hB
    rw [ht] at hP1
    obtain ⟨hP, hD⟩ := va_join hP hD isC isR hC hR hRn hdis hk1 hFc hP1 hD1
    obtain ⟨is, w2, h1, h2, h3⟩ := kx _ _ hw
    refine vx_out (fun x hx => (hno x hx).elim) X.2.2.2.2.2.2.1 hce hcv hcc (fun t2 ht2 hvm2 => ?_) hS.2.2 hc0 hs0
    exact ⟨(u.1, w2), h3, ⟨rfl, by rw [ht2]; exact hP.sub is (e_fm h1), va_K.moved hvm2 hK, hA ▸ hD.sub is h2 h1⟩, hS.F ht2⟩
  · obtain ⟨hP1, hK1, hD1⟩ := hB
    rw [ht] at hP1
    obtain ⟨hP, hD⟩ := va_join hP hD isC isR hC hR hRn hdis hk1 hFc hP1 hD1
    exact kk u hw H1 locs ls hP hD hS hl
theorem x_widen {l : Launch} {R : Room} {G : Nat → Nat → Nat → List (Nat × Value) → List Value → va_W → Prop} {cc : ByteArray} {nL : Nat} {own : String} {D : eD} {T : Nat → ClassId} {ini : Prop} {cells slots k n pc : Nat} {lv : List (Nat × Value)} {st : List Value} {ws : va_W} (X : eX l R G cc nL own D T ini) (h1 : cells ≤ k) (h2 : slots ≤ n) (kk : G k n pc lv st ws) : G cells slots pc lv st ws := by
  obtain ⟨p, e, s, m, args, below, meth, c, Q, A, H0, ret, X, hin, rfl⟩ := X
  exact fun H locs ls hP hD hS hl => W.widen h1 h2 (kk H locs ls hP hD hS hl)
