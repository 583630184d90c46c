/-! the text of a net -/
def rowE (B : Nat → Nat) (a : Nat) : Nat → Nat → List (Nat × Nat)
  | 0, _ => []
  | j + 1, b => if (B a).testBit b then (a, b) :: rowE B a j (b + 1) else rowE B a j (b + 1)
def allE (n : Nat) (B : Nat → Nat) : Nat → Nat → List (Nat × Nat)
  | 0, _ => []
  | j + 1, a => rowE B a (n - (a + 1)) (a + 1) ++ allE n B j (a + 1)
def xEd : List (Nat × Nat) → List Nat
  | [] => []
  | (a, b) :: L => 32 :: (48 + a) :: 32 :: (48 + b) :: (if L.isEmpty then xEd L else 44 :: xEd L)
def rEd : Bool → List (Nat × Nat) → List Nat
  | _, [] => []
  | f, (a, b) :: L => (if f then [32, 58, 32] else [44, 32]) ++ (48 + a) :: 32 :: (48 + b) :: rEd false L
theorem xEd_44 : ∀ L : List (Nat × Nat), L ≠ [] → 44 :: xEd L = rEd false L
  | [], h => absurd rfl h
  | (a, b) :: L, _ => by
    cases L with
    | nil => rfl
    | cons x L =>
      have ih := xEd_44 (x :: L) (by simp)
      rw [xEd, rEd, ← ih]
      rfl
theorem xEd_58 : ∀ L : List (Nat × Nat), L ≠ [] → 32 :: 58 :: xEd L = rEd true L
  | [], h => absurd rfl h
  | (a, b) :: L, _ => by
    cases L with
    | nil => rfl
    | cons x L =>
      have ih := xEd_44 (x :: L) (by simp)
      rw [xEd, rEd, ← ih]
      rfl
def dkT (D : Nat) : Nat → Nat → List Nat
  | 0, _ => []
  | j + 1, v => if D.testBit v then 32 :: (48 + v) :: dkT D j (v + 1) else dkT D j (v + 1)
theorem dkT_0 : ∀ j v, dkT 0 j v = []
  | 0, _ => rfl
  | j + 1, v => by rw [dkT, Nat.zero_testBit, if_neg (by decide)]; exact dkT_0 j (v + 1)
def hdT (n D : Nat) : List Nat := [110, 101, 116, 32, 48 + n] ++ (if D = 0 then [] else [32, 100, 97, 114, 107])
def txT (n D : Nat) (B : Nat → Nat) : List Nat := hdT n D ++ dkT D n 0 ++ rEd true (allE n B n 0)
def txC (n c : Nat) : Bool := popc (c &&& aeM n) 24 == (allE n (byM n c) n 0).length && (((popc (c &&& acM n n) 24 == 0) == (dkM n c == 0)) && decide ((txT n (dkM n c) (byM n c)).length ≤ 96))
theorem txC_all : ∀ dk n, n ≤ 6 → (CT n dk).all (fun c => txC n c) = true := by decide +kernel
theorem tx_facts {n c : Nat} {dk : Bool} (hn : n ≤ 6) (hc : c ∈ CT n dk) : popc (c &&& aeM n) 24 = (allE n (byM n c) n 0).length ∧ (popc (c &&& acM n n) 24 = 0 ↔ dkM n c = 0) ∧ (txT n (dkM n c) (byM n c)).length ≤ 96 := by
  have h := List.all_eq_true.mp (txC_all dk n hn) c hc
  unfold txC at h
  simp only [Bool.and_eq_true, beq_iff_eq, decide_eq_true_iff] at h
  obtain ⟨h1, h2, h3⟩ := h
  refine ⟨h1, ?_, h3⟩
  constructor
  · intro e
    rw [e] at h2
    have : (dkM n c == 0) = true := h2.symm
    exact beq_iff_eq.mp this
  · intro e
    rw [e] at h2
    have : (popc (c &&& acM n n) 24 == 0) = true := h2
    exact beq_iff_eq.mp this
/-- bytes written so far -/
def WB (X : List Nat) (len : Int32) (b : Nat → Int32) : Prop := len = nI X.length ∧ ∀ j, j < X.length → b j = nI (X.getD j 0)
theorem WB_nil (b : Nat → Int32) : WB [] 0 b := ⟨rfl, fun j hj => absurd hj (Nat.not_lt_zero _)⟩
theorem WB_snoc {X : List Nat} {x : Nat} {b : Nat → Int32} (h : ∀ j, j < X.length → b j = nI (X.getD j 0)) : WB (X ++ [x]) (nI (X.length + 1)) (upd b X.length (nI x)) := by
  refine ⟨by rw [List.length_append]; rfl, fun j hj => ?_⟩
  rw [List.length_append] at hj
  have hj : j < X.length + 1 := hj
  by_cases e : j = X.length
  · subst e
    rw [upd_in]
    simp [List.getD_eq_getElem?_getD]
  · rw [upd_out e, h j (by omega)]
    simp [List.getD_eq_getElem?_getD, List.getElem?_append_left (show j < X.length by omega)]
theorem f_put96 {X : List Nat} {x : Nat} {len : Int32} {b : Nat → Int32} (h : WB X len b) (hl : X.length < 96) {post : Int32 → (Nat → Int32) → Prop} (K : ∀ len b, WB (X ++ [x]) len b → post len b) : F_X5_put len b (nI x) post := by
  obtain ⟨rfl, h⟩ := h
  unfold F_X5_put F_X5_put_39
  refine br2 (nI_pos (by omega)) (br2 (nI_ge (b := 96) hl (by decide)) ⟨vp_in_nI hl (by decide), ?_⟩)
  rw [nI_clamp (by omega), nI_1]
  exact K _ _ (WB_snoc h)
theorem f_putBlank {X : List Nat} {len : Int32} {b : Nat → Int32} (h : WB X len b) (h0 : X ≠ []) (hl : X.length < 96) {post : Int32 → (Nat → Int32) → Prop} (K : ∀ len b, WB (X ++ [32]) len b → post len b) : F_X5_putBlank len b post := by
  have hp := List.length_pos_iff.mpr h0
  unfold F_X5_putBlank F_X5_putBlank_13
  refine br2 (by rw [h.1]; exact nI_nle hp (by omega)) (f_put96 (x := 32) h hl K)
theorem f_putNum {X : List Nat} {v : Nat} {len : Int32} {b : Nat → Int32} (h : WB X len b) (h0 : X ≠ []) (hl : X.length + 2 ≤ 96) {post : Int32 → (Nat → Int32) → Prop} (K : ∀ len b, WB (X ++ [32, 48 + v]) len b → post len b) : F_X5_putNumber len b (nI v) post := by
  unfold F_X5_putNumber
  refine f_putBlank h h0 (by omega) (fun len b h1 => ?_)
  rw [show (48 : Int32) + nI v = nI (48 + v) from nI_add 48 v]
  refine f_put96 h1 (by rw [List.length_append]; show X.length + 1 < 96; omega) (fun len b h2 => K len b ?_)
  rw [List.append_assoc] at h2
  exact h2
theorem eCh_at : ∀ s, s < 58 → ∀ j, j < eLen s → eCh s (nI j) = nI ((eBytes.getD s []).getD j 0) ∧ vp_nar .byte ((eCh s (nI j)).toInt8.toInt32) = nI ((eBytes.getD s []).getD j 0) := by decide +kernel
theorem eLen_100 : ∀ s, s < 58 → eLen s < 100 := by decide +kernel
theorem drop_one {w : List Nat} {i : Nat} (h : i < w.length) : w.drop i = w.getD i 0 :: w.drop (i + 1) := by
  rw [List.drop_eq_getElem_cons h, List.getD_eq_getElem?_getD, List.getElem?_eq_getElem h]
  rfl
theorem f_word6 {s : Nat} (hs : s < 58) {G : List Nat} (hG : G.length ≤ 96) {post : Int32 → (Nat → Int32) → Prop} (K : ∀ len b, WB G len b → post len b) : ∀ j i Y len b, i + j = eLen s → WB Y len b → Y ++ (eBytes.getD s []).drop i = G → F_X5_putWord_6 post (j + 1) s (nI i) len b := by
  have hl := eLen_100 s hs
  have hlen : (eBytes.getD s []).length = eLen s := rfl
  intro j
  induction j with
  | zero =>
    intro i Y len b hi hY hg
    unfold F_X5_putWord_6
    refine ⟨hs, br1 (nI_le (by omega) (by omega)) ?_⟩
    rw [List.drop_eq_nil_of_le (by omega), List.append_nil] at hg
    subst hg
    exact K _ _ hY
  | succ j ih =>
    intro i Y len b hi hY hg
    rw [drop_one (by omega)] at hg
    have hlg : Y.length < 96 := by
      have := congrArg List.length hg
      rw [List.length_append, List.length_cons] at this
      omega
    unfold F_X5_putWord_6
    refine ⟨hs, br2 (nI_ge (by omega) (by omega)) ⟨hs, vp_in_nI (by omega) (by omega), ?_⟩⟩
    rw [(eCh_at s hs i (by omega)).1, nI_1]
    refine f_put96 hY hlg (fun len b h => ih (i + 1) _ len b (by omega) h ?_)
    rw [List.append_assoc]
    exact hg
theorem f_putWord0 {s : Nat} (hs : s < 58) (hl : eLen s ≤ 96) {b : Nat → Int32} {post : Int32 → (Nat → Int32) → Prop} (K : ∀ len b, WB (eBytes.getD s []) len b → post len b) : F_X5_putWord 0 b s post := by
  unfold F_X5_putWord F_X5_putBlank F_X5_putBlank_13
  exact br1 (by decide) ⟨eLen s + 1, f_word6 hs hl K (eLen s) 0 [] 0 b (by omega) (WB_nil b) rfl⟩
theorem f_putWord {s : Nat} (hs : s < 58) {X : List Nat} {len : Int32} {b : Nat → Int32} (h : WB X len b) (h0 : X ≠ []) (hl : X.length + 1 + eLen s ≤ 96) {post : Int32 → (Nat → Int32) → Prop} (K : ∀ len b, WB (X ++ 32 :: eBytes.getD s []) len b → post len b) : F_X5_putWord len b s post := by
  unfold F_X5_putWord
  have hlen : (eBytes.getD s []).length = eLen s := rfl
  refine f_putBlank h h0 (by omega) (fun len b h1 => ⟨eLen s + 1, f_word6 hs (G := X ++ 32 :: eBytes.getD s []) ?_ K (eLen s) 0 _ len b (by omega) h1 ?_⟩)
  · rw [List.length_append, List.length_cons, hlen]; omega
  · rw [List.append_assoc]; rfl
theorem cx_31 {n c a : Nat} (hn : n ≤ 6) (hc : c < 2 ^ 31) (ha : a < n) {G : List Nat} (hG : G.length ≤ 96) {post : Int32 → (Nat → Int32) → Prop} {K19 : Int32 → Int32 → Int32 → Int32 → Int32 → (Nat → Int32) → Prop} {rest : List (Nat × Nat)} (hrest : rest.length < 1000) (K : ∀ Y len b, WB Y len b → Y ≠ [] → Y ++ xEd rest = G → K19 (nI n) (nI c) (nI rest.length) (nI (a + 1)) len b) : ∀ j b Y len by', b + j = n → a < b → WB Y len by' → Y ≠ [] → Y ++ xEd (rowE (byM n c) a j b ++ rest) = G → F_X5_writeEdges_31 post K19 (j + 1) (nI n) (nI c) (nI (rowE (byM n c) a j b ++ rest).length) (nI a) (nI b) len by' := by
  intro j
  induction j with
  | zero =>
    intro b Y len by' hb hab hY h0 hg
    unfold F_X5_writeEdges_31
    refine br1 (nI_le (by omega) (by omega)) ?_
    rw [nI_1]
    exact K Y len by' hY h0 hg
  | succ j ih =>
    intro b Y len by' hb hab hY h0 hg
    have ih := ih (b + 1)
    unfold F_X5_writeEdges_31 F_X5_writeEdges_74
    rw [rowE] at hg ⊢
    have ht : (byM n c a).testBit b = egb n c a b := by rw [byM_tb, decide_eq_true (show b < n by omega), Bool.true_and]
    have hrl : ∀ j b, (rowE (byM n c) a j b).length ≤ j := by
      intro j
      induction j with
      | zero => intro b; exact Nat.le_refl _
      | succ j ih =>
        intro b
        have := ih (b + 1)
        rw [rowE]
        split
        · rw [List.length_cons]; omega
        · omega
    have hr2 := hrl j (b + 1)
    refine br2 (nI_ge (by omega) (by omega)) (f_areJoined hn hc ha (by omega) ?_)
    rw [ht] at hg ⊢
    rw [nI_1]
    cases e : egb n c a b with
    | false =>
      rw [e, if_neg (by decide)] at hg
      rw [if_neg (by decide)]
      exact br1 rfl (ih Y len by' (by omega) (by omega) hY h0 hg)
    | true =>
      rw [e, if_pos rfl] at hg
      rw [if_pos rfl]
      have hg2 : Y ++ ([32, 48 + a] ++ ([32, 48 + b] ++ (if (rowE (byM n c) a j (b + 1) ++ rest).isEmpty then xEd (rowE (byM n c) a j (b + 1) ++ rest) else 44 :: xEd (rowE (byM n c) a j (b + 1) ++ rest)))) = G := hg
      have hl := congrArg List.length hg2
      rw [List.length_append, List.length_append, List.length_append] at hl
      have l1 : [32, 48 + a].length = 2 := rfl
      have l2 : [32, 48 + b].length = 2 := rfl
      refine br2 (by decide) (f_putNum hY h0 (by omega) (fun len by' h1 => f_putNum h1 (by simp) (by rw [List.length_append]; omega) (fun len by' h2 => ?_)))
      rw [List.cons_append, List.length_cons, ni_dec]
      by_cases em : (rowE (byM n c) a j (b + 1) ++ rest) = []
      · rw [em] at hg2
        refine br1 (by rw [em]; decide) (ih _ len by' (by omega) (by omega) h2 (by simp) ?_)
        rw [em]
        simp only [List.append_assoc]
        exact hg2
      · have hp := List.length_pos_iff.mpr em
        have hle : (rowE (byM n c) a j (b + 1) ++ rest).length < 2 ^ 31 := by rw [List.length_append]; omega
        have hie : (rowE (byM n c) a j (b + 1) ++ rest).isEmpty = false := by
          cases hx : (rowE (byM n c) a j (b + 1) ++ rest) with
          | nil => exact absurd hx em
          | cons _ _ => rfl
        rw [hie, if_neg (by decide)] at hg2 hl
        rw [List.length_cons] at hl
        refine br2 (nI_nle hp hle) (f_put96 (x := 44) h2 (by simp only [List.length_append, List.length_cons, List.length_nil] at hl ⊢; omega) (fun len by' h3 => ih _ len by' (by omega) (by omega) h3 (by simp) ?_))
        simp only [List.append_assoc]
        exact hg2
theorem rowE_len (B : Nat → Nat) (a : Nat) : ∀ j b, (rowE B a j b).length ≤ j
  | 0, _ => Nat.le_refl _
  | j + 1, b => by
    have := rowE_len B a j (b + 1)
    rw [rowE]
    split
    · rw [List.length_cons]; omega
    · omega
theorem allE_len (n : Nat) (hn : n ≤ 6) (B : Nat → Nat) : ∀ j a, (allE n B j a).length ≤ 6 * j
  | 0, _ => Nat.le_refl _
  | j + 1, a => by
    have := allE_len n hn B j (a + 1)
    have := rowE_len B a (n - (a + 1)) (a + 1)
    rw [allE, List.length_append]
    omega
theorem cx_19 {n c : Nat} (hn : n ≤ 6) (hc : c < 2 ^ 31) {G : List Nat} (hG : G.length ≤ 96) {post : Int32 → (Nat → Int32) → Prop} (K : ∀ len b, WB G len b → post len b) : ∀ j a Y len by', a + j = n → WB Y len by' → Y ≠ [] → Y ++ xEd (allE n (byM n c) j a) = G → F_X5_writeEdges_19 post (j + 1) (nI n) (nI c) (nI (allE n (byM n c) j a).length) (nI a) len by' := by
  intro j
  induction j with
  | zero =>
    intro a Y len by' ha hY h0 hg
    unfold F_X5_writeEdges_19
    have : Y = G := by rw [← hg]; simp [allE, xEd]
    subst this
    exact br1 (nI_le (by omega) (by omega)) (K _ _ hY)
  | succ j ih =>
    intro a Y len by' ha hY h0 hg
    unfold F_X5_writeEdges_19
    have hal := allE_len n hn (byM n c) j (a + 1)
    refine br2 (nI_ge (by omega) (by omega)) ⟨n - (a + 1) + 1, ?_⟩
    rw [nI_1]
    exact cx_31 hn hc (by omega) hG (by omega) (fun Y len b hY h0 hg => ih (a + 1) Y len b (by omega) hY h0 hg) (n - (a + 1)) (a + 1) Y len by' (by omega) (by omega) hY h0 hg
theorem f_writeEdges {n c : Nat} {dk : Bool} (hn : n ≤ 6) (hc : c < 2 ^ 21) (hm : c ∈ CT n dk) {X : List Nat} {len : Int32} {b : Nat → Int32} (h : WB X len b) (h0 : X ≠ []) (hl : (X ++ rEd true (allE n (byM n c) n 0)).length ≤ 96) {post : Int32 → (Nat → Int32) → Prop} (K : ∀ len b, WB (X ++ rEd true (allE n (byM n c) n 0)) len b → post len b) : F_X5_writeEdges len b (nI n) (nI c) post := by
  obtain ⟨t1, _, _⟩ := tx_facts hn hm
  have hal := allE_len n hn (byM n c) n 0
  unfold F_X5_writeEdges F_X5_writeEdges_16
  refine f_edges hn (by omega) ?_
  rw [t1]
  by_cases e : allE n (byM n c) n 0 = []
  · have hK := K
    rw [e, rEd, List.append_nil] at hK
    refine br1 (by rw [e]; decide) ⟨n + 1, cx_19 hn (by omega) (G := X) (by rw [e, rEd, List.append_nil] at hl; exact hl) hK n 0 X len b (by omega) h h0 (by rw [e]; simp [xEd])⟩
  · have hp := List.length_pos_iff.mpr e
    have hG := xEd_58 _ e
    have hl2 := hl
    rw [← hG, List.length_append, List.length_cons, List.length_cons] at hl2
    refine br2 (nI_nle hp (by omega)) (f_putWord (s := 38) (by decide) h h0 (by have : eLen 38 = 1 := rfl; omega) (fun len b h1 => ⟨n + 1, cx_19 hn (by omega) hl K n 0 _ len b (by omega) h1 (by simp) ?_⟩))
    rw [← hG, List.append_assoc]
    rfl
theorem cx_32 {n c : Nat} (hn : n ≤ 6) (hc : c < 2 ^ 31) {G : List Nat} (hG : G.length ≤ 96) {post : Int32 → (Nat → Int32) → Prop} {K58 : Int32 → Int32 → Int32 → (Nat → Int32) → Prop} (K : ∀ len b, WB G len b → K58 (nI n) (nI c) len b) : ∀ j v Y len by', v + j = n → WB Y len by' → Y ≠ [] → Y ++ dkT (dkM n c) j v = G → F_X5_writeNet_32 post K58 (j + 1) (nI n) (nI c) (nI v) len by' := by
  intro j
  induction j with
  | zero =>
    intro v Y len by' hv hY h0 hg
    unfold F_X5_writeNet_32
    rw [dkT, List.append_nil] at hg
    subst hg
    exact br1 (nI_le (by omega) (by omega)) (K _ _ hY)
  | succ j ih =>
    intro v Y len by' hv hY h0 hg
    unfold F_X5_writeNet_32 F_X5_writeNet_52
    refine br2 (nI_ge (by omega) (by omega)) (f_dark hn (by omega) ?_)
    rw [dkT] at hg
    have ht : (dkM n c).testBit v = c.testBit (LN n - 1 - LN v) := by
      rw [dkM_tb, decide_eq_true (show v < n by omega), Bool.true_and]
      rfl
    rw [ht] at hg
    rw [nI_1]
    cases e : c.testBit (LN n - 1 - LN v) with
    | false =>
      rw [e, if_neg (by decide)] at hg
      exact br1 ((and_pow0 hc).mpr e) (ih (v + 1) Y len by' (by omega) hY h0 hg)
    | true =>
      rw [e, if_pos rfl] at hg
      have hg2 : Y ++ ([32, 48 + v] ++ dkT (dkM n c) j (v + 1)) = G := hg
      have hl := congrArg List.length hg2
      rw [List.length_append, List.length_append] at hl
      have l1 : [32, 48 + v].length = 2 := rfl
      refine br2 (fun g => ?_) (f_putNum hY h0 (by omega) (fun len by' h1 => ih (v + 1) _ len by' (by omega) h1 (by simp) (by rw [List.append_assoc]; exact hg2)))
      have := (and_pow0 hc).mp g
      rw [this] at e
      exact absurd e (by decide)
theorem f_writeNet {n c : Nat} {dk : Bool} (hn : n ≤ 6) (hc : c < 2 ^ 21) (hm : c ∈ CT n dk) {len : Int32} {b : Nat → Int32} {post : Int32 → (Nat → Int32) → Prop} (K : ∀ len b, WB (txT n (dkM n c) (byM n c)) len b → post len b) : F_X5_writeNet len b (nI n) (nI c) post := by
  obtain ⟨_, t2, t3⟩ := tx_facts hn hm
  have hl := t3
  unfold txT at hl
  rw [List.length_append, List.length_append] at hl
  have hpc := popc_le (c &&& acM n n) 24
  unfold F_X5_writeNet F_X5_writeNet_58
  refine f_putWord0 (s := 36) (by decide) (by decide) (fun len b h1 => f_putNum h1 (by decide) (by decide) (fun len b h2 => f_darkNodes hn (by omega) ?_))
  have h2 : WB [110, 101, 116, 32, 48 + n] len b := h2
  by_cases e : dkM n c = 0
  · have hK := K
    have hl2 := t3
    unfold txT hdT at hK hl2
    rw [e, dkT_0, if_pos rfl, List.append_nil, List.append_nil] at hK hl2
    exact br1 (by rw [t2.mpr e]; decide) (f_writeEdges hn hc hm h2 (by simp) hl2 hK)
  · have hp : 0 < popc (c &&& acM n n) 24 := Nat.pos_of_ne_zero (fun g => e (t2.mp g))
    have hh : hdT n (dkM n c) = [110, 101, 116, 32, 48 + n] ++ [32, 100, 97, 114, 107] := by unfold hdT; rw [if_neg e]
    refine br2 (nI_nle hp (by omega)) (f_putWord (s := 37) (by decide) h2 (by simp) (by show 5 + 1 + 4 ≤ 96; decide) (fun len b h3 => ⟨n + 1, ?_⟩))
    have h3 : WB (hdT n (dkM n c)) len b := by rw [hh]; exact h3
    exact cx_32 hn (by omega) (G := hdT n (dkM n c) ++ dkT (dkM n c) n 0) (by rw [List.length_append]; omega) (fun len b h4 => f_writeEdges hn hc hm h4 (by rw [hh]; simp) t3 K) n 0 _ len b (by omega) h3 (by rw [hh]; simp) rfl
/-! the reference's text -/
theorem f_wr2 {s : Nat} (hs : s < 58) {G : List Nat} (hG : G.length ≤ 96) {post : Int32 → (Nat → Int32) → Prop} (K : ∀ len b, WB G len b → post len b) : ∀ j i Y len b, i + j = eLen s → WB Y len b → Y ++ (eBytes.getD s []).drop i = G → F_X12_writes_2 post (j + 1) s (nI i) len b := by
  have hl := eLen_100 s hs
  have hlen : (eBytes.getD s []).length = eLen s := rfl
  intro j
  induction j with
  | zero =>
    intro i Y len b hi hY hg
    unfold F_X12_writes_2
    refine ⟨hs, br1 (nI_le (by omega) (by omega)) ?_⟩
    rw [List.drop_eq_nil_of_le (by omega), List.append_nil] at hg
    subst hg
    exact K _ _ hY
  | succ j ih =>
    intro i Y len b hi hY hg
    rw [drop_one (by omega)] at hg
    have hlg : Y.length < 96 := by
      have := congrArg List.length hg
      rw [List.length_append, List.length_cons] at this
      omega
    obtain ⟨rfl, hY⟩ := hY
    unfold F_X12_writes_2
    refine ⟨hs, br2 (nI_ge (by omega) (by omega)) ⟨hs, vp_in_nI (by omega) (by omega), vp_in_nI (by omega) (by decide), ?_⟩⟩
    rw [(eCh_at s hs i (by omega)).2, nI_1, nI_1, nI_clamp (by omega)]
    refine ih (i + 1) _ _ _ (by omega) (WB_snoc hY) ?_
    rw [List.append_assoc]
    exact hg
theorem f_writes {s : Nat} (hs : s < 58) {X : List Nat} {len : Int32} {b : Nat → Int32} (h : WB X len b) (hl : X.length + eLen s ≤ 96) {post : Int32 → (Nat → Int32) → Prop} (K : ∀ len b, WB (X ++ eBytes.getD s []) len b → post len b) : F_X12_writes len b s post := by
  unfold F_X12_writes
  have hlen : (eBytes.getD s []).length = eLen s := rfl
  exact ⟨eLen s + 1, f_wr2 hs (G := X ++ eBytes.getD s []) (by rw [List.length_append]; omega) K (eLen s) 0 X len b (by omega) h rfl⟩
theorem dig8 : ∀ v, v < 10 → vp_nar .byte ((48 + nI v).toInt8.toInt32) = nI (48 + v) := by decide +kernel
theorem f_wrDigit {X : List Nat} {v : Nat} (hv : v < 10) {len : Int32} {b : Nat → Int32} (h : WB X len b) (hl : X.length < 96) {post : Int32 → (Nat → Int32) → Prop} (K : ∀ len b, WB (X ++ [48 + v]) len b → post len b) : F_X12_writesDigit len b (nI v) post := by
  obtain ⟨rfl, h⟩ := h
  unfold F_X12_writesDigit
  rw [dig8 v hv, nI_1, nI_clamp (by omega)]
  exact ⟨vp_in_nI (by omega) (by decide), K _ _ (WB_snoc h)⟩
theorem rx_104 {n D a : Nat} {B : Nat → Nat} {forms many w by' : Nat → Int32} {dark th : Int32} (hn : n ≤ 6) (hG : RG n D B dark (nI n) by') (ha : a < n) {G : List Nat} (hl : G.length ≤ 96) {post : Int32 → Int32 → Int32 → Int32 → Int32 → (Nat → Int32) → (Nat → Int32) → Prop} {K92 : Int32 → Int32 → Int32 → Int32 → Int32 → Int32 → Int32 → (Nat → Int32) → (Nat → Int32) → Prop} {rest : List (Nat × Nat)} (K : ∀ f X len b, WB X len b → X ++ rEd f rest = G → K92 (nI n) (nI f.toNat) (nI (a + 1)) dark (nI n) th len by' b) : ∀ j b f X len wr, b + j = n → WB X len wr → X ++ rEd f (rowE B a j b ++ rest) = G → F_X12_text_104 forms many w post K92 (j + 1) (nI n) (nI f.toNat) (nI a) (nI b) dark (nI n) th len by' wr := by
  intro j
  induction j with
  | zero =>
    intro b f X len wr hb hX hg
    unfold F_X12_text_104
    refine br1 (nI_le (by omega) (by omega)) ?_
    rw [nI_1]
    exact K f X len wr hX hg
  | succ j ih =>
    intro b f X len wr hb hX hg
    unfold F_X12_text_104 F_X12_text_166 F_X12_text_142
    rw [rowE] at hg
    obtain ⟨hb1, hb2⟩ := hG.2.2.2 a ha
    refine br2 (nI_ge (by omega) (by omega)) ⟨vp_in_nI (by omega) (by decide), ?_⟩
    rw [nI_clamp (by omega), hb1]
    refine f_holds hb2 (by omega) ?_
    rw [nI_1]
    cases e : (B a).testBit b with
    | false =>
      rw [e, if_neg (by decide)] at hg
      exact br4 rfl (ih (b + 1) f X len wr (by omega) hX hg)
    | true =>
      rw [e, if_pos rfl] at hg
      have ih2 : ∀ X len wr, WB X len wr → X ++ rEd false (rowE B a j (b + 1) ++ rest) = G → F_X12_text_104 forms many w post K92 (j + 1) (nI n) 0 (nI a) (nI b + 1) dark (nI n) th len by' wr := fun X len wr h g => by
        rw [nI_1]
        exact ih (b + 1) false X len wr (by omega) h g
      cases f with
      | true =>
        have hg2 : X ++ ([32, 58, 32] ++ ([48 + a] ++ ([32] ++ ([48 + b] ++ rEd false (rowE B a j (b + 1) ++ rest))))) = G := hg
        have hle := congrArg List.length hg2
        rw [List.length_append, List.length_append, List.length_append, List.length_append, List.length_append] at hle
        have l1 : [32, 58, 32].length = 3 := rfl
        have l2 : ([48 + a] : List Nat).length = 1 := rfl
        have l3 : ([32] : List Nat).length = 1 := rfl
        have l4 : ([48 + b] : List Nat).length = 1 := rfl
        have z1 : eLen 56 = 3 := rfl
        have z2 : eLen 57 = 2 := rfl
        have z3 : eLen 55 = 1 := rfl
        refine br3 (by decide) (br2 (by decide) (f_writes (s := 56) (by decide) hX (by omega) (fun len wr h1 => f_wrDigit (v := a) (by omega) h1 (by rw [List.length_append]; show X.length + 3 < 96; omega) (fun len wr h2 => f_writes (s := 55) (by decide) h2 (by rw [List.length_append, List.length_append]; show X.length + 3 + 1 + 1 ≤ 96; omega) (fun len wr h3 => f_wrDigit (v := b) (by omega) h3 (by rw [List.length_append, List.length_append, List.length_append]; show X.length + 3 + 1 + 1 < 96; omega) (fun len wr h4 => ih2 _ len wr h4 ?_))))))
        rw [List.append_assoc, List.append_assoc, List.append_assoc, List.append_assoc]
        exact hg2
      | false =>
        have hg2 : X ++ ([44, 32] ++ ([48 + a] ++ ([32] ++ ([48 + b] ++ rEd false (rowE B a j (b + 1) ++ rest))))) = G := hg
        have hle := congrArg List.length hg2
        rw [List.length_append, List.length_append, List.length_append, List.length_append, List.length_append] at hle
        have l1 : ([44, 32] : List Nat).length = 2 := rfl
        have l2 : ([48 + a] : List Nat).length = 1 := rfl
        have l3 : ([32] : List Nat).length = 1 := rfl
        have l4 : ([48 + b] : List Nat).length = 1 := rfl
        have z1 : eLen 56 = 3 := rfl
        have z2 : eLen 57 = 2 := rfl
        have z3 : eLen 55 = 1 := rfl
        refine br3 (by decide) (br1 (by decide) (f_writes (s := 57) (by decide) hX (by omega) (fun len wr h1 => f_wrDigit (v := a) (by omega) h1 (by rw [List.length_append]; show X.length + 2 < 96; omega) (fun len wr h2 => f_writes (s := 55) (by decide) h2 (by rw [List.length_append, List.length_append]; show X.length + 2 + 1 + 1 ≤ 96; omega) (fun len wr h3 => f_wrDigit (v := b) (by omega) h3 (by rw [List.length_append, List.length_append, List.length_append]; show X.length + 2 + 1 + 1 < 96; omega) (fun len wr h4 => ih2 _ len wr h4 ?_))))))
        rw [List.append_assoc, List.append_assoc, List.append_assoc, List.append_assoc]
        exact hg2
theorem rx_92 {n D : Nat} {B : Nat → Nat} {forms many w by' : Nat → Int32} {dark th : Int32} (hn : n ≤ 6) (hG : RG n D B dark (nI n) by') {G : List Nat} (hl : G.length ≤ 96) {post : Int32 → Int32 → Int32 → Int32 → Int32 → (Nat → Int32) → (Nat → Int32) → Prop} (K : ∀ len b, WB G len b → post len dark (nI n) th len by' b) : ∀ j a f X len wr, a + j = n → WB X len wr → X ++ rEd f (allE n B j a) = G → F_X12_text_92 forms many w post (j + 1) (nI n) (nI f.toNat) (nI a) dark (nI n) th len by' wr := by
  intro j
  induction j with
  | zero =>
    intro a f X len wr ha hX hg
    unfold F_X12_text_92
    have : X = G := by rw [← hg]; simp [allE, rEd]
    subst this
    exact br1 (nI_le (by omega) (by omega)) (K _ _ hX)
  | succ j ih =>
    intro a f X len wr ha hX hg
    unfold F_X12_text_92
    refine br2 (nI_ge (by omega) (by omega)) ⟨n - (a + 1) + 1, ?_⟩
    rw [nI_1]
    exact rx_104 hn hG (by omega) hl (fun f X len b h g => ih (a + 1) f X len b (by omega) h g) (n - (a + 1)) (a + 1) f X len wr (by omega) hX hg
theorem rx_50 {n D : Nat} {B : Nat → Nat} {forms many w by' : Nat → Int32} {th : Int32} (hn : n ≤ 6) (hG : RG n D B (nI D) (nI n) by') {H : List Nat} (hl : H.length ≤ 96) {post : Int32 → Int32 → Int32 → Int32 → Int32 → (Nat → Int32) → (Nat → Int32) → Prop} (K : ∀ len b, WB H len b → ∃ n92 : Nat, F_X12_text_92 forms many w post n92 (nI n) 1 0 (nI D) (nI n) th len by' b) : ∀ j v X len wr, v + j = n → WB X len wr → X ++ dkT D j v = H → F_X12_text_50 forms many w post (j + 1) (nI n) (nI v) (nI D) (nI n) th len by' wr := by
  intro j
  induction j with
  | zero =>
    intro v X len wr hv hX hg
    unfold F_X12_text_50
    rw [dkT, List.append_nil] at hg
    subst hg
    exact br1 (nI_le (by omega) (by omega)) (K _ _ hX)
  | succ j ih =>
    intro v X len wr hv hX hg
    unfold F_X12_text_50 F_X12_text_81
    rw [dkT] at hg
    refine br2 (nI_ge (by omega) (by omega)) (f_holds hG.2.2.1 (by omega) ?_)
    rw [nI_1]
    cases e : D.testBit v with
    | false =>
      rw [e, if_neg (by decide)] at hg
      exact br4 rfl (ih (v + 1) X len wr (by omega) hX hg)
    | true =>
      rw [e, if_pos rfl] at hg
      have hg2 : X ++ ([32] ++ ([48 + v] ++ dkT D j (v + 1))) = H := hg
      have hle := congrArg List.length hg2
      rw [List.length_append, List.length_append, List.length_append] at hle
      have l3 : ([32] : List Nat).length = 1 := rfl
      have l4 : ([48 + v] : List Nat).length = 1 := rfl
      have z3 : eLen 55 = 1 := rfl
      refine br3 (by decide) (f_writes (s := 55) (by decide) hX (by omega) (fun len wr h1 => f_wrDigit (v := v) (by omega) h1 (by rw [List.length_append]; show X.length + 1 < 96; omega) (fun len wr h2 => ih (v + 1) _ len wr (by omega) h2 ?_)))
      rw [List.append_assoc, List.append_assoc]
      exact hg2
theorem f_txt12 {n D : Nat} {B : Nat → Nat} {forms many w by' : Nat → Int32} {th : Int32} (hn : n ≤ 6) (hG : RG n D B (nI D) (nI n) by') (t3 : (txT n D B).length ≤ 96) {post : Int32 → Int32 → Int32 → Int32 → Int32 → (Nat → Int32) → (Nat → Int32) → Prop} (K : ∀ len b, WB (txT n D B) len b → post len (nI D) (nI n) th len by' b) {wr : Nat → Int32} : F_X12_writes 0 wr 53 (fun wm wr => F_X12_writesDigit wm wr (nI n) (fun wm wr => ((nI D = 0 → F_X12_text_48 forms many w post (nI n) (nI D) (nI n) th wm by' wr) ∧ (¬ nI D = 0 → F_X12_writes wm wr 54 (fun wm wr => F_X12_text_48 forms many w post (nI n) (nI D) (nI n) th wm by' wr))))) := by
  have hlen := t3
  unfold txT at hlen
  rw [List.length_append, List.length_append] at hlen
  have hh : hdT n D = [110, 101, 116, 32, 48 + n] ++ (if D = 0 then [] else [32, 100, 97, 114, 107]) := rfl
  have rest : ∀ len2 b2, WB (hdT n D) len2 b2 → F_X12_text_48 forms many w post (nI n) (nI D) (nI n) th len2 by' b2 := fun len2 b2 h3 => by
    unfold F_X12_text_48
    exact ⟨n + 1, rx_50 hn hG (H := hdT n D ++ dkT D n 0) (by rw [List.length_append]; omega) (fun len3 b3 h4 => ⟨n + 1, rx_92 hn hG t3 K n 0 true _ len3 b3 (by omega) h4 rfl⟩) n 0 _ len2 b2 (by omega) h3 rfl⟩
  refine f_writes (s := 53) (by decide) (WB_nil _) (by decide) (fun len2 b2 h1' => f_wrDigit (v := n) (by omega) h1' (by decide) (fun len2 b2 h2' => ?_))
  by_cases e : D = 0
  · exact br1 (by rw [e]; rfl) (rest len2 b2 (by rw [hh, if_pos e, List.append_nil]; exact h2'))
  · exact br2 (fun g => e (ni_inj (b := 0) hG.2.2.1 (by decide) g)) (f_writes (s := 54) (by decide) h2' (by show 5 + 5 ≤ 96; decide) (fun len2 b2 h3' => rest len2 b2 (by rw [hh, if_neg e]; exact h3')))
theorem lc31 (xs : Nat → Int32) (L : Nat) (hL3 : L ≤ 3072) : LC31 xs L IInv := by
  unfold LC31
  intro x4 m_begin m_dark m_end m_faultAt m_form m_hasImage m_heldDark m_lasts m_nodes m_pairs m_point m_symmetries m_taped m_thrown m_toldEdges m_toldForm m_toldNodes m_toldSymmetries m_writtenMany m_by m_decks m_draft m_firstOrder m_five m_forms m_held m_image m_many m_order m_seen m_tape m_toldOrder m_world m_written o x_hasImage x_cycleSums_edges x_cycleSums_hasDark x_cycleSums_parts x_cycleSums_ways x_decks x_draft_bannedCircles x_draft_endLines x_draft_endsJoined x_draft_fewestEdges x_draft_hasDark x_draft_least x_draft_most x_draft_mostEdges x_draft_patterns x_draft_ruleLines x_draft_size x_draft_unlike x_draft_words x_draft_patternCodes x_draft_patternNodes x_forms_allBits x_forms_firstOrder x_forms_isBeaten x_forms_isStudy x_forms_isTest x_forms_least x_forms_nodes x_forms_order x_forms_seen x_forms_stillEdges x_forms_symmetries x_forms_sketch_colours x_forms_sketch_darks x_forms_sketch_nodes x_forms_sketch_fans x_forms_sketch_near x_keptLevels_total x_keptLevels_codes x_keptLevels_firsts x_keptRules_bannedCircles x_keptRules_endLines x_keptRules_endsJoined x_keptRules_fewestEdges x_keptRules_hasDark x_keptRules_least x_keptRules_most x_keptRules_mostEdges x_keptRules_patterns x_keptRules_ruleLines x_keptRules_size x_keptRules_unlike x_keptRules_words x_keptRules_patternCodes x_keptRules_patternNodes x_keptWalkers_allParts x_keptWalkers_depths x_keptWalkers_lists x_keptWalkers_ownParts x_levels_total x_levels_codes x_levels_firsts x_match_best x_match_code x_match_one_colours x_match_one_darks x_match_one_nodes x_match_one_fans x_match_one_near x_match_two_colours x_match_two_darks x_match_two_nodes x_match_two_fans x_match_two_near x_page_length x_page_bytes x_rules_bannedCircles x_rules_endLines x_rules_endsJoined x_rules_fewestEdges x_rules_hasDark x_rules_least x_rules_most x_rules_mostEdges x_rules_patterns x_rules_ruleLines x_rules_size x_rules_unlike x_rules_words x_rules_patternCodes x_rules_patternNodes x_sketch_colours x_sketch_darks x_sketch_nodes x_sketch_fans x_sketch_near x_tape_begun x_tape_length x_tape_position x_tape_wrong x_tape_bytes x_texts_code x_texts_nodes x_toldForms_allBits x_toldForms_firstOrder x_toldForms_isBeaten x_toldForms_isStudy x_toldForms_isTest x_toldForms_least x_toldForms_nodes x_toldForms_order x_toldForms_seen x_toldForms_stillEdges x_toldForms_symmetries x_toldForms_sketch_colours x_toldForms_sketch_darks x_toldForms_sketch_nodes x_toldForms_sketch_fans x_toldForms_sketch_near x_walkers_allParts x_walkers_depths x_walkers_lists x_walkers_ownParts hx0 hxL hI
  obtain ⟨k, hT, hK, hW, hG, hD, hO, hP⟩ := hI
  obtain ⟨hk, hw, ⟨q1, q2, q3, q4, q5, q6, q7, q8, q9, q10, q11, q12, hp⟩, hL, hU⟩ := hK
  subst q1 q2 q3 q4 q5 q6 q7 q8 q9 q10 q11 q12
  have hsz := size_le hk
  have a1 := arg_in hx0 hxL (by omega) (j := 1) (by omega)
  have a2 := arg_in hx0 hxL (by omega) (j := 2) (by omega)
  have a3 := arg_in hx0 hxL (by omega) (j := 3) (by omega)
  have a4 := arg_in hx0 hxL (by omega) (j := 4) (by omega)
  have a5 := arg_in hx0 hxL (by omega) (j := 5) (by omega)
  have o0 := vp_in_nI (n := 0) (N := 1) (by decide) (by decide)
  
  unfold F_law_c31 F_L_text F_law_c31_2389
  refine ⟨a1, a2, ?_⟩
  generalize xs (x4 + 1).toNatClampNeg = p1
  generalize xs (x4 + 2).toNatClampNeg = p2
  unfold F_X11_text F_X12_text F_X12_thrown
  rcases net_q hk p1 p2 with h | ⟨n, i, h1, h2, rfl, hi, rfl⟩
  · exact x_needNet_n hk hL h ⟨rfl, a1, a2, f_noNet_n hk hw hU h (br2 (by decide) (law_fin rfl (fun e => absurd e (by decide)) ⟨rfl, k, hT, ⟨hk, hw, ⟨rfl, rfl, rfl, rfl, rfl, rfl, rfl, rfl, rfl, rfl, rfl, rfl, hp⟩, hL, hU⟩, hW, hG, hD, hO, hP⟩))⟩
  · have hc := lvl_get hk h1 h2 hi
    have hc31 := lvl_lt31 hk h1 (by omega) hi
    have n6 : n ≤ 6 := by omega
    obtain ⟨_, _, t3⟩ := tx_facts n6 hc.1
    refine x_needNet_y hk hL h1 h2 hi (f_writeNet n6 hc31 hc.1 (fun len b hb => ⟨o0, a1, a2, f_noNet_y hk hw hU h1 h2 hi (br1 rfl (f_takes hk hU h1 h2 hi (fun dark nodes by' hR => ?_)))⟩))
    obtain ⟨rfl, rfl, hD31, hby⟩ := hR
    have hR : RG n (dkM n ((lvl k n).getD i 0)) (byM n ((lvl k n).getD i 0)) (nI (dkM n ((lvl k n).getD i 0))) (nI n) by' := ⟨rfl, rfl, hD31, hby⟩
    have fin : ∀ len2 b2, WB (txT n (dkM n ((lvl k n).getD i 0)) (byM n ((lvl k n).getD i 0))) len2 b2 → PageR len2 b2 len b := fun len2 b2 h => ⟨_, t3, h.1, hb.1, fun j hj => (h.2 j hj).trans (hb.2 j hj).symm⟩
    have eqv : ∀ len2 b2, WB (txT n (dkM n ((lvl k n).getD i 0)) (byM n ((lvl k n).getD i 0))) len2 b2 → len2 = len := fun len2 b2 h => h.1.trans hb.1.symm
    refine f_txt12 n6 hR t3 (fun len4 b4 h5 => ?_)
    have hP2 := fin len4 b4 h5
    have e5 := eqv len4 b4 h5
    subst e5
    exact law_fin rfl (fun _ => updL_in) ⟨rfl, k, hT, ⟨hk, hw, ⟨rfl, rfl, rfl, rfl, rfl, rfl, rfl, rfl, rfl, rfl, rfl, rfl, hp⟩, hL, hU⟩, hW, hG, hD, hO, hP2⟩
