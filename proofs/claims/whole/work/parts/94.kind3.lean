/-! the row that is read into -/
theorem c_0 : (0 : Int32).toNatClampNeg = 0 := by decide
theorem c_1 : (1 : Int32).toNatClampNeg = 1 := by decide
theorem c_2 : (2 : Int32).toNatClampNeg = 2 := by decide
theorem c_3 : (3 : Int32).toNatClampNeg = 3 := by decide
theorem c_4 : (4 : Int32).toNatClampNeg = 4 := by decide
theorem c_5 : (5 : Int32).toNatClampNeg = 5 := by decide
theorem c_6 : (6 : Int32).toNatClampNeg = 6 := by decide
theorem c_7 : (7 : Int32).toNatClampNeg = 7 := by decide
theorem c_8 : (8 : Int32).toNatClampNeg = 8 := by decide
theorem c_9 : (9 : Int32).toNatClampNeg = 9 := by decide
theorem c_10 : (10 : Int32).toNatClampNeg = 10 := by decide
theorem c_11 : (11 : Int32).toNatClampNeg = 11 := by decide
theorem c_12 : (12 : Int32).toNatClampNeg = 12 := by decide
theorem c_13 : (13 : Int32).toNatClampNeg = 13 := by decide
theorem c_14 : (14 : Int32).toNatClampNeg = 14 := by decide
theorem c_15 : (15 : Int32).toNatClampNeg = 15 := by decide
theorem c_16 : (16 : Int32).toNatClampNeg = 16 := by decide
theorem c_17 : (17 : Int32).toNatClampNeg = 17 := by decide
theorem v30 {j : Nat} (h : j < 30) : vp_in (nI j) 30 := vp_in_nI h (by decide)
def WKb (mo : Option Nat) (ps : List (Nat × Nat)) (ed : Option (Nat × Nat)) (le : Option Nat) : Prop := ps.length ≤ 2 ∧ (∀ v, mo = some v → v < 100) ∧ (∀ x, ed = some x → x.1 < 100) ∧ (∀ v, le = some v → v < 100)
def WK (sz : Nat) (dk : Bool) (mo : Option Nat) (fr : Nat) (ev : Bool) (fo : Bool) (ul : Bool) (ps : List (Nat × Nat)) (ej : Bool) (ed : Option (Nat × Nat)) (le : Option Nat) (rl : Nat) (el : Nat) (w : Nat → Int32) : Prop := WKb mo ps ed le ∧ w 0 = nI sz ∧ w 1 = nI dk.toNat ∧ w 2 = oI mo ∧ w 3 = nI fr ∧ w 4 = nI ev.toNat ∧ w 5 = nI fo.toNat ∧ w 6 = nI ul.toNat ∧ w 7 = nI ps.length ∧ w 12 = nI ej.toNat ∧ w 13 = oI (ed.map Prod.fst) ∧ w 15 = oI le ∧ w 16 = nI rl ∧ w 17 = nI el ∧ (∀ i, i < ps.length → w (8 + 2 * i) = nI (ps.getD i (0, 0)).1 ∧ w (8 + 2 * i + 1) = nI (ps.getD i (0, 0)).2) ∧ (∀ x, ed = some x → w 14 = nI x.2) ∧ (∀ i, 18 ≤ i → i < 30 → w i = 0)
theorem WK_0 {sz : Nat} {dk : Bool} {mo : Option Nat} {fr : Nat} {ev : Bool} {fo : Bool} {ul : Bool} {ps : List (Nat × Nat)} {ej : Bool} {ed : Option (Nat × Nat)} {le : Option Nat} {rl : Nat} {el : Nat} {w : Nat → Int32} {n : Nat} (h : WK sz dk mo fr ev fo ul ps ej ed le rl el w) : WK n dk mo fr ev fo ul ps ej ed le rl el (upd w 0 (nI n)) := by
  obtain ⟨hb, h0, h1, h2, h3, h4, h5, h6, h7, h12, h13, h15, h16, h17, hP, hE, hZ⟩ := h
  exact ⟨hb, upd_in, (upd_out (by decide)).trans h1, (upd_out (by decide)).trans h2, (upd_out (by decide)).trans h3, (upd_out (by decide)).trans h4, (upd_out (by decide)).trans h5, (upd_out (by decide)).trans h6, (upd_out (by decide)).trans h7, (upd_out (by decide)).trans h12, (upd_out (by decide)).trans h13, (upd_out (by decide)).trans h15, (upd_out (by decide)).trans h16, (upd_out (by decide)).trans h17, fun i hi => by
    have hl := hb.1
    exact ⟨(upd_out (by omega)).trans (hP i hi).1, (upd_out (by omega)).trans (hP i hi).2⟩, fun x e => (upd_out (by decide)).trans (hE x e), fun i a b => (upd_out (by omega)).trans (hZ i a b)⟩
theorem WK_1 {sz : Nat} {dk : Bool} {mo : Option Nat} {fr : Nat} {ev : Bool} {fo : Bool} {ul : Bool} {ps : List (Nat × Nat)} {ej : Bool} {ed : Option (Nat × Nat)} {le : Option Nat} {rl : Nat} {el : Nat} {w : Nat → Int32} (h : WK sz dk mo fr ev fo ul ps ej ed le rl el w) : WK sz true mo fr ev fo ul ps ej ed le rl el (upd w 1 1) := by
  obtain ⟨hb, h0, h1, h2, h3, h4, h5, h6, h7, h12, h13, h15, h16, h17, hP, hE, hZ⟩ := h
  exact ⟨hb, (upd_out (by decide)).trans h0, upd_in, (upd_out (by decide)).trans h2, (upd_out (by decide)).trans h3, (upd_out (by decide)).trans h4, (upd_out (by decide)).trans h5, (upd_out (by decide)).trans h6, (upd_out (by decide)).trans h7, (upd_out (by decide)).trans h12, (upd_out (by decide)).trans h13, (upd_out (by decide)).trans h15, (upd_out (by decide)).trans h16, (upd_out (by decide)).trans h17, fun i hi => by
    have hl := hb.1
    exact ⟨(upd_out (by omega)).trans (hP i hi).1, (upd_out (by omega)).trans (hP i hi).2⟩, fun x e => (upd_out (by decide)).trans (hE x e), fun i a b => (upd_out (by omega)).trans (hZ i a b)⟩
theorem WK_2 {sz : Nat} {dk : Bool} {mo : Option Nat} {fr : Nat} {ev : Bool} {fo : Bool} {ul : Bool} {ps : List (Nat × Nat)} {ej : Bool} {ed : Option (Nat × Nat)} {le : Option Nat} {rl : Nat} {el : Nat} {w : Nat → Int32} {v : Nat} (hv : v < 100) (h : WK sz dk mo fr ev fo ul ps ej ed le rl el w) : WK sz dk (some v) fr ev fo ul ps ej ed le rl el (upd w 2 (nI v)) := by
  obtain ⟨hb, h0, h1, h2, h3, h4, h5, h6, h7, h12, h13, h15, h16, h17, hP, hE, hZ⟩ := h
  exact ⟨⟨hb.1, fun x e => by rw [← Option.some.inj e]; exact hv, hb.2.2⟩, (upd_out (by decide)).trans h0, (upd_out (by decide)).trans h1, upd_in, (upd_out (by decide)).trans h3, (upd_out (by decide)).trans h4, (upd_out (by decide)).trans h5, (upd_out (by decide)).trans h6, (upd_out (by decide)).trans h7, (upd_out (by decide)).trans h12, (upd_out (by decide)).trans h13, (upd_out (by decide)).trans h15, (upd_out (by decide)).trans h16, (upd_out (by decide)).trans h17, fun i hi => by
    have hl := hb.1
    exact ⟨(upd_out (by omega)).trans (hP i hi).1, (upd_out (by omega)).trans (hP i hi).2⟩, fun x e => (upd_out (by decide)).trans (hE x e), fun i a b => (upd_out (by omega)).trans (hZ i a b)⟩
theorem WK_3 {sz : Nat} {dk : Bool} {mo : Option Nat} {fr : Nat} {ev : Bool} {fo : Bool} {ul : Bool} {ps : List (Nat × Nat)} {ej : Bool} {ed : Option (Nat × Nat)} {le : Option Nat} {rl : Nat} {el : Nat} {w : Nat → Int32} {f' : Nat} (h : WK sz dk mo fr ev fo ul ps ej ed le rl el w) : WK sz dk mo f' ev fo ul ps ej ed le rl el (upd w 3 (nI f')) := by
  obtain ⟨hb, h0, h1, h2, h3, h4, h5, h6, h7, h12, h13, h15, h16, h17, hP, hE, hZ⟩ := h
  exact ⟨hb, (upd_out (by decide)).trans h0, (upd_out (by decide)).trans h1, (upd_out (by decide)).trans h2, upd_in, (upd_out (by decide)).trans h4, (upd_out (by decide)).trans h5, (upd_out (by decide)).trans h6, (upd_out (by decide)).trans h7, (upd_out (by decide)).trans h12, (upd_out (by decide)).trans h13, (upd_out (by decide)).trans h15, (upd_out (by decide)).trans h16, (upd_out (by decide)).trans h17, fun i hi => by
    have hl := hb.1
    exact ⟨(upd_out (by omega)).trans (hP i hi).1, (upd_out (by omega)).trans (hP i hi).2⟩, fun x e => (upd_out (by decide)).trans (hE x e), fun i a b => (upd_out (by omega)).trans (hZ i a b)⟩
theorem WK_4 {sz : Nat} {dk : Bool} {mo : Option Nat} {fr : Nat} {ev : Bool} {fo : Bool} {ul : Bool} {ps : List (Nat × Nat)} {ej : Bool} {ed : Option (Nat × Nat)} {le : Option Nat} {rl : Nat} {el : Nat} {w : Nat → Int32} (h : WK sz dk mo fr ev fo ul ps ej ed le rl el w) : WK sz dk mo fr true fo ul ps ej ed le rl el (upd w 4 1) := by
  obtain ⟨hb, h0, h1, h2, h3, h4, h5, h6, h7, h12, h13, h15, h16, h17, hP, hE, hZ⟩ := h
  exact ⟨hb, (upd_out (by decide)).trans h0, (upd_out (by decide)).trans h1, (upd_out (by decide)).trans h2, (upd_out (by decide)).trans h3, upd_in, (upd_out (by decide)).trans h5, (upd_out (by decide)).trans h6, (upd_out (by decide)).trans h7, (upd_out (by decide)).trans h12, (upd_out (by decide)).trans h13, (upd_out (by decide)).trans h15, (upd_out (by decide)).trans h16, (upd_out (by decide)).trans h17, fun i hi => by
    have hl := hb.1
    exact ⟨(upd_out (by omega)).trans (hP i hi).1, (upd_out (by omega)).trans (hP i hi).2⟩, fun x e => (upd_out (by decide)).trans (hE x e), fun i a b => (upd_out (by omega)).trans (hZ i a b)⟩
theorem WK_5 {sz : Nat} {dk : Bool} {mo : Option Nat} {fr : Nat} {ev : Bool} {fo : Bool} {ul : Bool} {ps : List (Nat × Nat)} {ej : Bool} {ed : Option (Nat × Nat)} {le : Option Nat} {rl : Nat} {el : Nat} {w : Nat → Int32} (h : WK sz dk mo fr ev fo ul ps ej ed le rl el w) : WK sz dk mo fr ev true ul ps ej ed le rl el (upd w 5 1) := by
  obtain ⟨hb, h0, h1, h2, h3, h4, h5, h6, h7, h12, h13, h15, h16, h17, hP, hE, hZ⟩ := h
  exact ⟨hb, (upd_out (by decide)).trans h0, (upd_out (by decide)).trans h1, (upd_out (by decide)).trans h2, (upd_out (by decide)).trans h3, (upd_out (by decide)).trans h4, upd_in, (upd_out (by decide)).trans h6, (upd_out (by decide)).trans h7, (upd_out (by decide)).trans h12, (upd_out (by decide)).trans h13, (upd_out (by decide)).trans h15, (upd_out (by decide)).trans h16, (upd_out (by decide)).trans h17, fun i hi => by
    have hl := hb.1
    exact ⟨(upd_out (by omega)).trans (hP i hi).1, (upd_out (by omega)).trans (hP i hi).2⟩, fun x e => (upd_out (by decide)).trans (hE x e), fun i a b => (upd_out (by omega)).trans (hZ i a b)⟩
theorem WK_6 {sz : Nat} {dk : Bool} {mo : Option Nat} {fr : Nat} {ev : Bool} {fo : Bool} {ul : Bool} {ps : List (Nat × Nat)} {ej : Bool} {ed : Option (Nat × Nat)} {le : Option Nat} {rl : Nat} {el : Nat} {w : Nat → Int32} (h : WK sz dk mo fr ev fo ul ps ej ed le rl el w) : WK sz dk mo fr ev fo true ps ej ed le rl el (upd w 6 1) := by
  obtain ⟨hb, h0, h1, h2, h3, h4, h5, h6, h7, h12, h13, h15, h16, h17, hP, hE, hZ⟩ := h
  exact ⟨hb, (upd_out (by decide)).trans h0, (upd_out (by decide)).trans h1, (upd_out (by decide)).trans h2, (upd_out (by decide)).trans h3, (upd_out (by decide)).trans h4, (upd_out (by decide)).trans h5, upd_in, (upd_out (by decide)).trans h7, (upd_out (by decide)).trans h12, (upd_out (by decide)).trans h13, (upd_out (by decide)).trans h15, (upd_out (by decide)).trans h16, (upd_out (by decide)).trans h17, fun i hi => by
    have hl := hb.1
    exact ⟨(upd_out (by omega)).trans (hP i hi).1, (upd_out (by omega)).trans (hP i hi).2⟩, fun x e => (upd_out (by decide)).trans (hE x e), fun i a b => (upd_out (by omega)).trans (hZ i a b)⟩
theorem WK_12 {sz : Nat} {dk : Bool} {mo : Option Nat} {fr : Nat} {ev : Bool} {fo : Bool} {ul : Bool} {ps : List (Nat × Nat)} {ej : Bool} {ed : Option (Nat × Nat)} {le : Option Nat} {rl : Nat} {el : Nat} {w : Nat → Int32} (h : WK sz dk mo fr ev fo ul ps ej ed le rl el w) : WK sz dk mo fr ev fo ul ps true ed le rl el (upd w 12 1) := by
  obtain ⟨hb, h0, h1, h2, h3, h4, h5, h6, h7, h12, h13, h15, h16, h17, hP, hE, hZ⟩ := h
  exact ⟨hb, (upd_out (by decide)).trans h0, (upd_out (by decide)).trans h1, (upd_out (by decide)).trans h2, (upd_out (by decide)).trans h3, (upd_out (by decide)).trans h4, (upd_out (by decide)).trans h5, (upd_out (by decide)).trans h6, (upd_out (by decide)).trans h7, upd_in, (upd_out (by decide)).trans h13, (upd_out (by decide)).trans h15, (upd_out (by decide)).trans h16, (upd_out (by decide)).trans h17, fun i hi => by
    have hl := hb.1
    exact ⟨(upd_out (by omega)).trans (hP i hi).1, (upd_out (by omega)).trans (hP i hi).2⟩, fun x e => (upd_out (by decide)).trans (hE x e), fun i a b => (upd_out (by omega)).trans (hZ i a b)⟩
theorem WK_15 {sz : Nat} {dk : Bool} {mo : Option Nat} {fr : Nat} {ev : Bool} {fo : Bool} {ul : Bool} {ps : List (Nat × Nat)} {ej : Bool} {ed : Option (Nat × Nat)} {le : Option Nat} {rl : Nat} {el : Nat} {w : Nat → Int32} {v : Nat} (hv : v < 100) (h : WK sz dk mo fr ev fo ul ps ej ed le rl el w) : WK sz dk mo fr ev fo ul ps ej ed (some v) rl el (upd w 15 (nI v)) := by
  obtain ⟨hb, h0, h1, h2, h3, h4, h5, h6, h7, h12, h13, h15, h16, h17, hP, hE, hZ⟩ := h
  exact ⟨⟨hb.1, hb.2.1, hb.2.2.1, fun x e => by rw [← Option.some.inj e]; exact hv⟩, (upd_out (by decide)).trans h0, (upd_out (by decide)).trans h1, (upd_out (by decide)).trans h2, (upd_out (by decide)).trans h3, (upd_out (by decide)).trans h4, (upd_out (by decide)).trans h5, (upd_out (by decide)).trans h6, (upd_out (by decide)).trans h7, (upd_out (by decide)).trans h12, (upd_out (by decide)).trans h13, upd_in, (upd_out (by decide)).trans h16, (upd_out (by decide)).trans h17, fun i hi => by
    have hl := hb.1
    exact ⟨(upd_out (by omega)).trans (hP i hi).1, (upd_out (by omega)).trans (hP i hi).2⟩, fun x e => (upd_out (by decide)).trans (hE x e), fun i a b => (upd_out (by omega)).trans (hZ i a b)⟩
theorem WK_16 {sz : Nat} {dk : Bool} {mo : Option Nat} {fr : Nat} {ev : Bool} {fo : Bool} {ul : Bool} {ps : List (Nat × Nat)} {ej : Bool} {ed : Option (Nat × Nat)} {le : Option Nat} {rl : Nat} {el : Nat} {w : Nat → Int32} (h : WK sz dk mo fr ev fo ul ps ej ed le rl el w) : WK sz dk mo fr ev fo ul ps ej ed le (rl + 1) el (upd w 16 (nI (rl + 1))) := by
  obtain ⟨hb, h0, h1, h2, h3, h4, h5, h6, h7, h12, h13, h15, h16, h17, hP, hE, hZ⟩ := h
  exact ⟨hb, (upd_out (by decide)).trans h0, (upd_out (by decide)).trans h1, (upd_out (by decide)).trans h2, (upd_out (by decide)).trans h3, (upd_out (by decide)).trans h4, (upd_out (by decide)).trans h5, (upd_out (by decide)).trans h6, (upd_out (by decide)).trans h7, (upd_out (by decide)).trans h12, (upd_out (by decide)).trans h13, (upd_out (by decide)).trans h15, upd_in, (upd_out (by decide)).trans h17, fun i hi => by
    have hl := hb.1
    exact ⟨(upd_out (by omega)).trans (hP i hi).1, (upd_out (by omega)).trans (hP i hi).2⟩, fun x e => (upd_out (by decide)).trans (hE x e), fun i a b => (upd_out (by omega)).trans (hZ i a b)⟩
theorem WK_17 {sz : Nat} {dk : Bool} {mo : Option Nat} {fr : Nat} {ev : Bool} {fo : Bool} {ul : Bool} {ps : List (Nat × Nat)} {ej : Bool} {ed : Option (Nat × Nat)} {le : Option Nat} {rl : Nat} {el : Nat} {w : Nat → Int32} (h : WK sz dk mo fr ev fo ul ps ej ed le rl el w) : WK sz dk mo fr ev fo ul ps ej ed le rl (el + 1) (upd w 17 (nI (el + 1))) := by
  obtain ⟨hb, h0, h1, h2, h3, h4, h5, h6, h7, h12, h13, h15, h16, h17, hP, hE, hZ⟩ := h
  exact ⟨hb, (upd_out (by decide)).trans h0, (upd_out (by decide)).trans h1, (upd_out (by decide)).trans h2, (upd_out (by decide)).trans h3, (upd_out (by decide)).trans h4, (upd_out (by decide)).trans h5, (upd_out (by decide)).trans h6, (upd_out (by decide)).trans h7, (upd_out (by decide)).trans h12, (upd_out (by decide)).trans h13, (upd_out (by decide)).trans h15, (upd_out (by decide)).trans h16, upd_in, fun i hi => by
    have hl := hb.1
    exact ⟨(upd_out (by omega)).trans (hP i hi).1, (upd_out (by omega)).trans (hP i hi).2⟩, fun x e => (upd_out (by decide)).trans (hE x e), fun i a b => (upd_out (by omega)).trans (hZ i a b)⟩
theorem WK_ed {sz : Nat} {dk : Bool} {mo : Option Nat} {fr : Nat} {ev : Bool} {fo : Bool} {ul : Bool} {ps : List (Nat × Nat)} {ej : Bool} {ed : Option (Nat × Nat)} {le : Option Nat} {rl : Nat} {el : Nat} {w : Nat → Int32} {a b : Nat} (ha : a < 100) (h : WK sz dk mo fr ev fo ul ps ej ed le rl el w) : WK sz dk mo fr ev fo ul ps ej (some (a, b)) le rl el (upd (upd w 13 (nI a)) 14 (nI b)) := by
  obtain ⟨hb, h0, h1, h2, h3, h4, h5, h6, h7, h12, h13, h15, h16, h17, hP, hE, hZ⟩ := h
  exact ⟨⟨hb.1, hb.2.1, fun x e => by rw [← Option.some.inj e]; exact ha, hb.2.2.2⟩, (upd_out (by decide)).trans ((upd_out (by decide)).trans h0), (upd_out (by decide)).trans ((upd_out (by decide)).trans h1), (upd_out (by decide)).trans ((upd_out (by decide)).trans h2), (upd_out (by decide)).trans ((upd_out (by decide)).trans h3), (upd_out (by decide)).trans ((upd_out (by decide)).trans h4), (upd_out (by decide)).trans ((upd_out (by decide)).trans h5), (upd_out (by decide)).trans ((upd_out (by decide)).trans h6), (upd_out (by decide)).trans ((upd_out (by decide)).trans h7), (upd_out (by decide)).trans ((upd_out (by decide)).trans h12), (upd_out (by decide)).trans upd_in, (upd_out (by decide)).trans ((upd_out (by decide)).trans h15), (upd_out (by decide)).trans ((upd_out (by decide)).trans h16), (upd_out (by decide)).trans ((upd_out (by decide)).trans h17), fun i hi => by
    have hl := hb.1
    exact ⟨(upd_out (by omega)).trans ((upd_out (by omega)).trans (hP i hi).1), (upd_out (by omega)).trans ((upd_out (by omega)).trans (hP i hi).2)⟩, fun x e => by rw [← Option.some.inj e]; exact upd_in, fun i a b => (upd_out (by omega)).trans ((upd_out (by omega)).trans (hZ i a b))⟩
theorem WK_ps {sz : Nat} {dk : Bool} {mo : Option Nat} {fr : Nat} {ev : Bool} {fo : Bool} {ul : Bool} {ps : List (Nat × Nat)} {ej : Bool} {ed : Option (Nat × Nat)} {le : Option Nat} {rl : Nat} {el : Nat} {w : Nat → Int32} {n P : Nat} (c : ¬ ps.length = 2) (h : WK sz dk mo fr ev fo ul ps ej ed le rl el w) : WK sz dk mo fr ev fo ul (ps ++ [(n, P)]) ej ed le rl el (upd (upd (upd w (8 + 2 * ps.length) (nI n)) (8 + 2 * ps.length + 1) (nI P)) 7 (nI (ps.length + 1))) := by
  obtain ⟨hb, h0, h1, h2, h3, h4, h5, h6, h7, h12, h13, h15, h16, h17, hP, hE, hZ⟩ := h
  have hl := hb.1
  refine ⟨⟨by rw [List.length_append, List.length_singleton]; omega, hb.2⟩, (upd_out (by omega)).trans ((upd_out (by omega)).trans ((upd_out (by omega)).trans h0)), (upd_out (by omega)).trans ((upd_out (by omega)).trans ((upd_out (by omega)).trans h1)), (upd_out (by omega)).trans ((upd_out (by omega)).trans ((upd_out (by omega)).trans h2)), (upd_out (by omega)).trans ((upd_out (by omega)).trans ((upd_out (by omega)).trans h3)), (upd_out (by omega)).trans ((upd_out (by omega)).trans ((upd_out (by omega)).trans h4)), (upd_out (by omega)).trans ((upd_out (by omega)).trans ((upd_out (by omega)).trans h5)), (upd_out (by omega)).trans ((upd_out (by omega)).trans ((upd_out (by omega)).trans h6)), upd_in.trans (by rw [List.length_append, List.length_singleton]), (upd_out (by omega)).trans ((upd_out (by omega)).trans ((upd_out (by omega)).trans h12)), (upd_out (by omega)).trans ((upd_out (by omega)).trans ((upd_out (by omega)).trans h13)), (upd_out (by omega)).trans ((upd_out (by omega)).trans ((upd_out (by omega)).trans h15)), (upd_out (by omega)).trans ((upd_out (by omega)).trans ((upd_out (by omega)).trans h16)), (upd_out (by omega)).trans ((upd_out (by omega)).trans ((upd_out (by omega)).trans h17)), fun i hi => ?_, fun x e => (upd_out (by omega)).trans ((upd_out (by omega)).trans ((upd_out (by omega)).trans (hE x e))), fun i a b => (upd_out (by omega)).trans ((upd_out (by omega)).trans ((upd_out (by omega)).trans (hZ i a b)))⟩
  rw [List.length_append, List.length_singleton] at hi
  by_cases e : i = ps.length
  · subst e
    rw [gd_app2]
    exact ⟨(upd_out (by omega)).trans ((upd_out (by omega)).trans upd_in), (upd_out (by omega)).trans upd_in⟩
  · rw [gd_app1 _ _ (by omega)]
    exact ⟨(upd_out (by omega)).trans ((upd_out (by omega)).trans ((upd_out (by omega)).trans (hP i (by omega)).1)), (upd_out (by omega)).trans ((upd_out (by omega)).trans ((upd_out (by omega)).trans (hP i (by omega)).2))⟩
theorem m_readTo {Bt : Nat → Nat} {N : Nat} {tape w : Nat → Int32} (hM : TpM Bt N tape) {p j lo hi : Nat} (hp : p ≤ N) (hj : j < 30) (hlo : lo < 100) (hhi : hi < 100) {bg : Int32} {post : Int32 → Int32 → Int32 → (Nat → Int32) → Prop} (K1 : ∀ v, pNum Bt N lo hi p = some v → lo ≤ v → v ≤ hi → post 1 (nI (skB Bt N p)) (nI (nxP Bt N p)) (upd w j (nI v))) (K0 : pNum Bt N lo hi p = none → ∀ pos w', post 0 (nI (skB Bt N p)) pos w') : F_X12_readTo (nI N) tape bg (nI p) w (nI j) (nI lo) (nI hi) post := by
  unfold F_X12_readTo F_X12_readTo_27
  rw [nI_clamp (by omega)]
  exact m_num hM hp hlo hhi (fun v e g1 g2 => ⟨v30 hj, br2 (fun g => (nm1 (by omega) g).elim) ⟨by decide, K1 v e g1 g2⟩⟩) (fun e pos => ⟨v30 hj, br1 rfl ⟨by decide, K0 e pos _⟩⟩)
theorem m_once {w : Nat → Int32} {j : Nat} (hj : j < 30) {b : Bool} (h : w j = nI b.toNat) {post : Int32 → (Nat → Int32) → Prop} (K1 : b = false → post 1 (upd w j 1)) (K0 : b = true → post 0 w) : F_X12_readOnce w (nI j) post := by
  unfold F_X12_readOnce
  rw [nI_clamp (by omega), h]
  refine ⟨v30 hj, ?_⟩
  cases b with
  | false => exact br3 (by decide) ⟨v30 hj, K1 rfl⟩
  | true => exact br4 rfl ⟨by decide, K0 rfl⟩
theorem m_sign {Bt : Nat → Nat} {N : Nat} {tape : Nat → Int32} (hM : TpM Bt N tape) {p0 p c : Nat} (h0 : p0 ≤ N) (e : skB Bt N p0 = skB Bt N p) (hc : c < 128) {bg : Int32} {post : Int32 → Int32 → Int32 → Prop} (K1 : sgA Bt N c p = true → post 1 (nI (skB Bt N p)) (nI (skB Bt N p + 1))) (K0 : sgA Bt N c p = false → post 0 (nI (skB Bt N p)) (nI (skB Bt N p))) : F_X12_passesSign (nI N) tape bg (nI p0) (nI c) post := by
  have es : sgA Bt N c p0 = sgA Bt N c p := by unfold sgA; rw [e]
  refine m_passesSign hM h0 hc (fun h => ?_) (fun h => ?_)
  · rw [e]; exact K1 (es.symm.trans h)
  · rw [e]; exact K0 (es.symm.trans h)
theorem m_readEnd {Bt : Nat → Nat} {N : Nat} {tape w : Nat → Int32} (hM : TpM Bt N tape) {p : Nat} (hp : p ≤ N) {sz : Nat} {dk : Bool} {mo : Option Nat} {fr : Nat} {ev : Bool} {fo : Bool} {ul : Bool} {ps : List (Nat × Nat)} {ej : Bool} {ed : Option (Nat × Nat)} {le : Option Nat} {rl : Nat} {el : Nat} (hK : WK sz dk mo fr ev fo ul ps ej ed le rl el w) {bg : Int32} {post : Int32 → Int32 → Int32 → (Nat → Int32) → Prop}
    (Kok : ∀ ej' ed' le' p', rdEnd Bt N ej ed le p = .ok (ej', ed', le', p') → p' ≤ N → ∀ bg w', WK sz dk mo fr ev fo ul ps ej' ed' le' rl (el + 1) w' → post 1 bg (nI p') w')
    (Kerr : ∀ e, rdEnd Bt N ej ed le p = .error e → ∀ pos w', post 0 (nI e) pos w') : F_X12_readEnd (nI N) tape bg (nI p) w post := by
  have hw := wd_le (Bt := Bt) hp
  have hn := nx_le (Bt := Bt) hw
  have h17 : w 17 = nI el := hK.2.2.2.2.2.2.2.2.2.2.2.2.2.1
  have h1 := WK_17 hK
  unfold F_X12_readEnd F_X12_readEnd_68 F_X12_readEnd_69 F_X12_readEnd_103 F_X12_readEnd_137 F_X12_readEnd_138
  simp only [c_0, c_1, c_2, c_3, c_4, c_5, c_6, c_7, c_8, c_9, c_10, c_11, c_12, c_13, c_14, c_15, c_16, c_17]
  rw [h17, nI_1]
  generalize upd w 17 (nI (el + 1)) = w1 at *
  refine ⟨v30 (j := 17) (by decide), v30 (j := 17) (by decide), m_letters hM hp (m_wd hM hp 3 (by decide) (by decide) (fun w3 => ?_) (fun w3 => ?_))⟩
  · have h12 : w1 12 = nI ej.toNat := h1.2.2.2.2.2.2.2.2.2.1
    exact br2 (by decide) (m_once (j := 12) (by decide) h12 (fun h => ⟨by decide, Kok true ed le _ (by simp only [rdEnd, w3, h, if_true, if_false, Bool.false_eq_true]) hw _ _ (WK_12 h1)⟩) (fun h => ⟨by decide, Kerr _ (by simp only [rdEnd, w3, h, if_true, if_false, Bool.false_eq_true]) _ _⟩))
  · refine br1 rfl (m_wd hM hp 6 (by decide) (by decide) (fun w6 => ?_) (fun w6 => ?_))
    · have w4 : isW Bt N 4 p = false := isW_no w6 (by decide)
      have h15 : w1 15 = oI le := h1.2.2.2.2.2.2.2.2.2.2.2.1
      refine br2 (by decide) ⟨v30 (j := 15) (by decide), ?_⟩
      rw [h15]
      cases le with
      | none => exact br4 rfl (m_readTo hM (j := 15) (lo := 0) (hi := 5) hw (by decide) (by decide) (by decide) (fun v ev _ gv => br2 (by decide) ⟨by decide, Kok ej ed (some v) _ (by simp only [rdEnd, w3, w4, w6, ev, Option.isSome_none, if_true, if_false, Bool.false_eq_true]) hn _ _ (WK_15 (by omega) h1)⟩) (fun ev pos w' => br1 rfl ⟨by decide, Kerr _ (by simp only [rdEnd, w3, w4, w6, ev, Option.isSome_none, if_true, if_false, Bool.false_eq_true]) _ _⟩))
      | some v =>
        have hv := h1.1.2.2.2 v rfl
        exact br3 (fun g => (nm1 (by omega) g).elim) ⟨by decide, Kerr _ (by simp only [rdEnd, w3, w4, w6, Option.isSome_some, if_true, if_false, Bool.false_eq_true]) _ _⟩
    · refine br1 rfl (m_wd hM hp 4 (by decide) (by decide) (fun w4 => ?_) (fun w4 => ?_))
      · have h13 : w1 13 = oI (ed.map Prod.fst) := h1.2.2.2.2.2.2.2.2.2.2.1
        refine br2 (by decide) ⟨v30 (j := 13) (by decide), ?_⟩
        rw [h13]
        cases ed with
        | none =>
          refine br4 rfl (m_readTo hM (j := 13) (lo := 0) (hi := 15) hw (by decide) (by decide) (by decide) (fun a ea _ ga => ?_) (fun ea pos w' => br4 rfl ⟨by decide, Kerr _ (by simp only [rdEnd, w3, w4, ea, Option.isSome_none, if_true, if_false, Bool.false_eq_true]) _ _⟩))
          refine br3 (by decide) (m_pword hM hn 5 (by decide) (by decide) (fun w5 => ?_) (fun w5 => ?_))
          · refine br2 (by decide) ⟨v30 (j := 13) (by decide), ?_⟩
            rw [upd_in]
            exact m_readTo hM (j := 14) (lo := a) (hi := 15) (wd_le hn) (by decide) (by omega) (by decide) (fun b eb _ gb => br2 (by decide) ⟨by decide, Kok ej (some (a, b)) le _ (by simp only [rdEnd, w3, w4, ea, w5, eb, Option.isSome_none, if_true, if_false, Bool.false_eq_true]) (nx_le (wd_le hn)) _ _ (WK_ed (by omega) h1)⟩) (fun eb pos w' => br1 rfl ⟨by decide, Kerr _ (by simp only [rdEnd, w3, w4, ea, w5, eb, Option.isSome_none, if_true, if_false, Bool.false_eq_true]) _ _⟩)
          · exact br1 rfl ⟨by decide, Kerr _ (by simp only [rdEnd, w3, w4, ea, w5, Option.isSome_none, if_true, if_false, Bool.false_eq_true]) _ _⟩
        | some x =>
          have hv := h1.1.2.2.1 x rfl
          exact br3 (fun g => (nm1 (by omega) g).elim) ⟨by decide, Kerr _ (by simp only [rdEnd, w3, w4, Option.isSome_some, if_true, if_false, Bool.false_eq_true]) _ _⟩
      · exact br1 rfl ⟨by decide, Kerr _ (by simp only [rdEnd, w3, w4, w6, if_true, if_false, Bool.false_eq_true]) _ _⟩
theorem m_readWithout {Bt : Nat → Nat} {N : Nat} {tape w : Nat → Int32} (hM : TpM Bt N tape) {p : Nat} (hp : p ≤ N) {sz : Nat} {dk : Bool} {mo : Option Nat} {fr : Nat} {ev : Bool} {fo : Bool} {ul : Bool} {ps : List (Nat × Nat)} {ej : Bool} {ed : Option (Nat × Nat)} {le : Option Nat} {rl : Nat} {el : Nat} (hK : WK sz dk mo fr ev fo ul ps ej ed le rl el w) {pr : Int32} {post : Int32 → Int32 → Int32 → Int32 → (Nat → Int32) → Prop}
    (Kok : ∀ ps' p', rdWo Bt N ps p = .ok (ps', p') → p' ≤ N → ∀ bg pr w', WK sz dk mo fr ev fo ul ps' ej ed le rl el w' → post 1 bg pr (nI p') w')
    (Kerr : ∀ e, rdWo Bt N ps p = .error e → ∀ pr pos w', post 0 (nI e) pr pos w') : F_X12_readWithout (nI N) tape (nI (skB Bt N p)) pr (nI (wdE Bt N p)) w post := by
  have hw := wd_le (Bt := Bt) hp
  have hn := nx_le (Bt := Bt) hw
  have hl := hK.1.1
  have h7 : w 7 = nI ps.length := hK.2.2.2.2.2.2.2.2.1
  unfold F_X12_readWithout F_X12_readWithout_46
  simp only [c_0, c_1, c_2, c_3, c_4, c_5, c_6, c_7, c_8, c_9, c_10, c_11, c_12, c_13, c_14, c_15, c_16, c_17]
  rw [h7, show (8 : Int32) + 2 * nI ps.length = nI (8 + 2 * ps.length) from by rw [show (2 : Int32) * nI ps.length = nI (2 * ps.length) from ni_mul 2 _]; exact nI_add 8 _, nI_1]
  refine ⟨v30 (j := 7) (by decide), ?_⟩
  by_cases c : ps.length = 2
  · exact br1 (by rw [c]; rfl) ⟨by decide, Kerr _ (by simp only [rdWo, c, if_true]) _ _ _⟩
  · refine br2 (fun g => c (ni_inj (b := 2) (by omega) (by decide) g)) (m_readTo hM (j := 8 + 2 * ps.length) (lo := 2) (hi := 4) hw (by omega) (by decide) (by decide) (fun n en g1 g2 => ?_) (fun en pos w' => br1 rfl ⟨by decide, Kerr _ (by simp only [rdWo, c, en, if_false]) _ _ _⟩))
    refine br2 (by decide) ⟨v30 (by omega), ?_⟩
    rw [nI_clamp (show 8 + 2 * ps.length < 2 ^ 31 by omega), upd_in]
    refine m_readPairs hM (n := n) (by omega) (by omega) hn (fun P p' hr bg => ?_) (fun e hr pr pos => br4 rfl ⟨by decide, Kerr e (by simp only [rdWo, c, en, hr, if_false]) _ _ _⟩)
    refine br3 (by decide) ⟨v30 (by omega), v30 (j := 7) (by decide), v30 (j := 7) (by decide), ?_⟩
    rw [nI_clamp (show 8 + 2 * ps.length + 1 < 2 ^ 31 by omega), upd_out (show 7 ≠ 8 + 2 * ps.length + 1 by omega), upd_out (show 7 ≠ 8 + 2 * ps.length by omega), h7, nI_1]
    exact Kok (ps ++ [(n, P)]) p' (by simp only [rdWo, c, en, hr, if_false]) (rdPs_lt (show n ≤ 6 by omega) (show 1 ≤ n by omega) hn hr).2 _ _ _ (WK_ps c hK)
