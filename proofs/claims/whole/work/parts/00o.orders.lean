/-! the reference's orders, one behind the other, and the code of the order now -/
def sw (l : List Nat) (a b : Nat) : List Nat := (l.set a (l.getD b 0)).set b (l.getD a 0)
def rv : Nat → List Nat → Nat → Nat → List Nat
  | 0, l, _, _ => l
  | f + 1, l, a, b => if b ≤ a then l else rv f (sw l a b) (a + 1) (b - 1)
def nk (l : List Nat) : Nat → Option Nat
  | 0 => none
  | k + 1 => if l.getD k 0 ≤ l.getD (k + 1) 0 then some k else nk l k
def neL (l : List Nat) (x : Nat) : Nat → Nat
  | 0 => 0
  | e + 1 => if l.getD x 0 ≤ l.getD (e + 1) 0 then e + 1 else neL l x e
def nxl (n : Nat) (l : List Nat) : Option (List Nat) := match nk l (n - 1) with
  | none => none
  | some k => some (rv n (sw l k (neL l k (n - 1))) (k + 1) (n - 1))
def chn (n : Nat) : List (List Nat) → Bool
  | [] => true
  | [l] => nxl n l == none
  | l :: l' :: r => nxl n l == some l' && chn n (l' :: r)
theorem chn_lex : ∀ n, n ≤ 6 → chn n (lex n) = true := by decide +kernel
/-- an array that holds a list of small numbers -/
def OrdA (o : Nat → Int32) (l : List Nat) (n : Nat) : Prop := l.length = n ∧ ∀ i, i < n → o i = nI (l.getD i 0) ∧ l.getD i 0 < n
theorem getD_set {l : List Nat} {a i x : Nat} (ha : a < l.length) : (l.set a x).getD i 0 = if i = a then x else l.getD i 0 := by
  rw [List.getD_eq_getElem?_getD, List.getElem?_set]
  by_cases e : a = i
  · subst e; simp [ha]
  · have : ¬ i = a := fun h => e h.symm
    simp [e, this]
theorem sw_ok {o : Nat → Int32} {l : List Nat} {n a b : Nat} (h : OrdA o l n) (ha : a < n) (hb : b < n) : OrdA (upd (upd o a (o b)) b (o a)) (sw l a b) n := by
  obtain ⟨hl, h⟩ := h
  refine ⟨by simp [sw, hl], fun i hi => ?_⟩
  unfold sw
  rw [getD_set (by simp; omega), getD_set (by omega)]
  by_cases e : i = b
  · subst e; rw [upd_in, if_pos rfl]; exact h a ha
  · rw [upd_out e, if_neg e]
    by_cases e2 : i = a
    · subst e2; rw [upd_in, if_pos rfl]; exact h b hb
    · rw [upd_out e2, if_neg e2]; exact h i hi
theorem f_swaps {o : Nat → Int32} {l : List Nat} {n a b : Nat} (hn : n ≤ 6) (h : OrdA o l n) (ha : a < n) (hb : b < n) {post} (K : ∀ o', OrdA o' (sw l a b) n → post o') : F_X12_swaps o (nI a) (nI b) post := by
  have ga := vp_in_nI (n := a) (N := 6) (by omega) (by decide)
  have gb := vp_in_nI (n := b) (N := 6) (by omega) (by decide)
  refine ⟨ga, gb, ga, gb, ?_⟩
  rw [nI_clamp (by omega), nI_clamp (by omega)]
  exact K _ (sw_ok h ha hb)
theorem nx_86 {n : Nat} (hn : n ≤ 6) {nn : Int32} {post : Int32 → (Nat → Int32) → Prop} : ∀ (f a b : Nat) (l : List Nat) (o : Nat → Int32), b < n → a < 100 → b ≤ a + f → OrdA o l n → (∀ o', OrdA o' (rv f l a b) n → post 1 o') → F_X12_nextOrder_86 nn post (f + 1) (nI a) (nI b) o
  | 0, a, b, l, o, hb, ha, hf, h, K => by
    unfold F_X12_nextOrder_86
    exact br1 (nI_le (by omega) (by omega)) (K o h)
  | f + 1, a, b, l, o, hb, ha, hf, h, K => by
    unfold F_X12_nextOrder_86
    rw [rv] at K
    by_cases e : b ≤ a
    · rw [if_pos e] at K
      exact br1 (nI_le e (by omega)) (K o h)
    · rw [if_neg e] at K
      refine br2 (nI_ge (by omega) (by omega)) (f_swaps hn h (by omega) (by omega) ?_)
      intro o' h'
      rw [nI_1, show nI b + (-1) = nI (b - 1) by rw [show b = (b - 1) + 1 by omega, ni_dec]; rfl]
      exact nx_86 hn f (a + 1) (b - 1) _ o' (by omega) (by omega) (by omega) h' K
theorem nx_47 {n k : Nat} (hn : n ≤ 6) {post : Int32 → (Nat → Int32) → Prop} {l : List Nat} {o : Nat → Int32} (h : OrdA o l n) (hk : k + 1 < n) (hlt : l.getD k 0 ≤ l.getD (k + 1) 0) (K : ∀ o', OrdA o' (rv n (sw l k (neL l k (n - 1))) (k + 1) (n - 1)) n → post 1 o') : ∀ (j e : Nat), e = k + 1 + j → e < n → neL l k e = neL l k (n - 1) → F_X12_nextOrder_47 (nI n) post (j + 1) (nI k) (nI e) o := by
  have fin : ∀ e, e < n → k + 1 ≤ e → l.getD k 0 ≤ l.getD e 0 → neL l k e = neL l k (n - 1) → F_X12_swaps o (nI k) (nI e) (fun t_order_71 => ∃ n86 : Nat, F_X12_nextOrder_86 (nI n) post n86 (nI k + 1) (nI n - 1) t_order_71) := by
    intro e he hke hle hne
    have e1 : neL l k e = e := by
      cases e with
      | zero => omega
      | succ e => rw [neL, if_pos hle]
    rw [e1] at hne
    refine f_swaps hn h (by omega) he ?_
    intro o' h'
    refine ⟨n + 1, ?_⟩
    rw [nI_1]
    show F_X12_nextOrder_86 (nI n) post (n + 1) (nI (k + 1)) (nI n - nI 1) o'
    rw [ni_sub (by omega)]
    refine nx_86 hn n (k + 1) (n - 1) _ o' (by omega) (by omega) (by omega) h' ?_
    rw [hne]
    exact K
  intro j
  induction j with
  | zero =>
    intro e he hen hne
    unfold F_X12_nextOrder_47
    have ge := vp_in_nI (n := e) (N := 6) (by omega) (by decide)
    have gk := vp_in_nI (n := k) (N := 6) (by omega) (by decide)
    refine ⟨ge, gk, ?_⟩
    rw [nI_clamp (by omega), nI_clamp (by omega), (h.2 e hen).1, (h.2 k (by omega)).1]
    have b1 := (h.2 e hen).2
    have b2 := (h.2 k (by omega)).2
    have : e = k + 1 := by omega
    subst this
    exact br1 (nI_le hlt (by omega)) (fin _ hen (Nat.le_refl _) hlt hne)
  | succ j ih =>
    intro e he hen hne
    unfold F_X12_nextOrder_47
    have ge := vp_in_nI (n := e) (N := 6) (by omega) (by decide)
    have gk := vp_in_nI (n := k) (N := 6) (by omega) (by decide)
    refine ⟨ge, gk, ?_⟩
    rw [nI_clamp (by omega), nI_clamp (by omega), (h.2 e hen).1, (h.2 k (by omega)).1]
    have b1 := (h.2 e hen).2
    have b2 := (h.2 k (by omega)).2
    by_cases c : l.getD k 0 ≤ l.getD e 0
    · exact br1 (nI_le c (by omega)) (fin _ hen (by omega) c hne)
    · refine br2 (nI_ge (by omega) (by omega)) ?_
      rw [show nI e + (-1) = nI (e - 1) by rw [show e = (e - 1) + 1 by omega, ni_dec]; rfl]
      refine ih (e - 1) (by omega) (by omega) ?_
      rw [← hne]
      obtain ⟨e', rfl⟩ : ∃ e', e = e' + 1 := ⟨e - 1, by omega⟩
      rw [neL, if_neg c]; rfl
theorem f_nextOrder {n : Nat} (hn : n ≤ 6) (h1 : 1 ≤ n) {o : Nat → Int32} {l : List Nat} (h : OrdA o l n) {post : Int32 → (Nat → Int32) → Prop} (K0 : nxl n l = none → post 0 o) (K1 : ∀ l' o', nxl n l = some l' → OrdA o' l' n → post 1 o') : F_X12_nextOrder (nI n) o post := by
  unfold F_X12_nextOrder
  refine ⟨n, ?_⟩
  have main : ∀ k, k + 1 ≤ n → nk l k = nk l (n - 1) → F_X12_nextOrder_7 (nI n) post (k + 1) (nI k + (-1)) o := by
    intro k
    induction k with
    | zero =>
      intro _ hk
      unfold F_X12_nextOrder_7 F_X12_nextOrder_34
      have e : nI 0 + (-1) = (-1 : Int32) := by decide
      rw [e]
      refine br1 (by decide) (br2 (by decide) ⟨by decide, K0 ?_⟩)
      unfold nxl
      rw [← hk, nk]
    | succ k ih =>
      intro hkn hk
      have ge := vp_in_nI (n := k + 1) (N := 6) (by omega) (by decide)
      have gk := vp_in_nI (n := k) (N := 6) (by omega) (by decide)
      have b1 := (h.2 k (by omega)).2
      have b2 := (h.2 (k + 1) (by omega)).2
      unfold F_X12_nextOrder_7
      rw [ni_dec]
      refine br2 (nI_pos (by omega)) ⟨gk, by rw [nI_1]; exact ge, ?_⟩
      rw [nI_1, nI_clamp (by omega), nI_clamp (by omega), (h.2 k (by omega)).1, (h.2 (k + 1) (by omega)).1]
      by_cases c : l.getD k 0 ≤ l.getD (k + 1) 0
      · refine br1 (nI_le c (by omega)) ?_
        unfold F_X12_nextOrder_34
        refine br1 (nI_pos' (by omega)) ⟨n - 1 - (k + 1) + 1, ?_⟩
        show F_X12_nextOrder_47 (nI n) post _ (nI k) (nI n - nI 1) o
        rw [ni_sub h1]
        refine nx_47 hn h (by omega) c ?_ (n - 1 - (k + 1)) (n - 1) (by omega) (by omega) rfl
        intro o' h'
        refine K1 _ o' ?_ h'
        unfold nxl
        rw [← hk, nk, if_pos c]
      · refine br2 (nI_ge (by omega) (by omega)) (ih (by omega) ?_)
        rw [nk, if_neg c] at hk
        exact hk
  have := main (n - 1) (by omega) rfl
  rw [show n - 1 + 1 = n by omega] at this
  have e : nI n - 2 = nI (n - 1) + (-1) := by
    rw [show n = (n - 1) + 1 by omega, nI_succ, Int32.sub_eq_add_neg, Int32.add_assoc]
    congr 1
  rw [e]
  exact this
/-! the net that the reference holds -/
def RG (n D : Nat) (B : Nat → Nat) (dark nodes : Int32) (by' : Nat → Int32) : Prop := dark = nI D ∧ nodes = nI n ∧ D < 2 ^ 31 ∧ ∀ v, v < n → by' v = nI (B v) ∧ B v < 2 ^ 31
theorem take_succ' {l : List Nat} {k : Nat} (h : k < l.length) : l.take (k + 1) = l.take k ++ [l.getD k 0] := by
  rw [List.take_succ, List.getD_eq_getElem?_getD, List.getElem?_eq_getElem h]; rfl
theorem cod_lt21 {D : Nat} {B : Nat → Nat} {l : List Nat} {n : Nat} (hn : n ≤ 6) (h : l.length ≤ n) : cod D B l < 2 ^ 21 := Nat.lt_of_lt_of_le (cod_lt D B l) (Nat.pow_le_pow_right (by decide) (LN_mono (show l.length ≤ 6 by omega)))
theorem cn_32 {n D : Nat} {B : Nat → Nat} {dark nodes : Int32} {by' o : Nat → Int32} (hn : n ≤ 6) (hG : RG n D B dark nodes by') {l : List Nat} (h : OrdA o l n) {k : Nat} (hk : k < n) {post : Int32 → Prop} {K4 : Int32 → Int32 → Prop} (K : K4 (nI (cod D B (l.take (k + 1)))) (nI (k + 1))) : ∀ j e, e + j = k → F_X12_codeNow_32 dark nodes by' o post K4 (j + 1) (nI (cod D B (l.take k) * 2 ^ (e + 1) + blk D B (l.getD k 0) (l.take e))) (nI k) (nI e)
  | 0, e, he => by
    have : e = k := by omega
    subst this
    unfold F_X12_codeNow_32
    refine br1 (Int32.le_refl _) ?_
    rw [nI_1]
    have := K
    rw [take_succ' (by rw [h.1]; exact hk), cod_snoc, List.length_take, h.1, Nat.min_eq_left (by omega)] at this
    exact this
  | j + 1, e, he => by
    unfold F_X12_codeNow_32
    have ge := vp_in_nI (n := e) (N := 6) (by omega) (by decide)
    have gk := vp_in_nI (n := k) (N := 6) (by omega) (by decide)
    have b1 := h.2 k hk
    have b2 := h.2 e (by omega)
    have gv := vp_in_nI (n := l.getD k 0) (N := 6) (by omega) (by decide)
    refine br2 (nI_ge (by omega) (by omega)) ⟨gk, ?_, ge, ?_⟩
    · rw [nI_clamp (by omega), b1.1]; exact gv
    · intro x hx
      rw [nI_clamp (show k < 2 ^ 31 by omega), nI_clamp (show e < 2 ^ 31 by omega), b1.1, b2.1, nI_clamp (by omega), (hG.2.2.2 _ b1.2).1, ni_tb (hG.2.2.2 _ b1.2).2 (by omega)] at hx
      have e1 : ∀ z, nI z <<< ((1 : Int32) &&& 31) = nI (2 * z) := by
        intro z
        show nI z <<< (nI 1 &&& 31) = _
        rw [ni_shl z (by decide), Nat.mul_comm]
      rw [e1, ni_or, or_bit] at hx
      subst hx
      rw [nI_1]
      have := cn_32 hn hG h hk (post := post) (K4 := K4) K j (e + 1) (by omega)
      rw [take_succ' (show e < l.length by rw [h.1]; omega), blk_snoc] at this
      rw [show 2 * (cod D B (l.take k) * 2 ^ (e + 1) + blk D B (l.getD k 0) (l.take e)) + ((B (l.getD k 0)).testBit (l.getD e 0)).toNat = cod D B (l.take k) * 2 ^ (e + 1 + 1) + (2 * blk D B (l.getD k 0) (l.take e) + ((B (l.getD k 0)).testBit (l.getD e 0)).toNat) by rw [Nat.mul_add, Nat.pow_succ 2 (e + 1), Nat.mul_comm 2 (cod D B (l.take k) * 2 ^ (e + 1)), Nat.mul_assoc]; omega]
      exact this
theorem f_codeNow {n D : Nat} {B : Nat → Nat} {dark nodes : Int32} {by' o : Nat → Int32} (hn : n ≤ 6) (hG : RG n D B dark nodes by') {l : List Nat} (h : OrdA o l n) {post : Int32 → Prop} (K : post (nI (cod D B l))) : F_X12_codeNow dark nodes by' o post := by
  unfold F_X12_codeNow
  refine ⟨n + 1, ?_⟩
  have main : ∀ j k, k + j = n → F_X12_codeNow_4 dark nodes by' o post (j + 1) (nI (cod D B (l.take k))) (nI k) := by
    intro j
    induction j with
    | zero =>
      intro k hk
      have : k = n := by omega
      subst this
      unfold F_X12_codeNow_4
      rw [hG.2.1]
      refine br1 (Int32.le_refl _) ?_
      rw [← h.1, List.take_length]
      exact K
    | succ j ih =>
      intro k hk
      unfold F_X12_codeNow_4
      have gk := vp_in_nI (n := k) (N := 6) (by omega) (by decide)
      have b1 := h.2 k (by omega)
      rw [hG.2.1]
      refine br2 (nI_ge (by omega) (by omega)) ⟨gk, ?_⟩
      intro x hx
      rw [nI_clamp (show k < 2 ^ 31 by omega), b1.1, hG.1, ni_tb hG.2.2.1 (by omega)] at hx
      have e1 : ∀ z, nI z <<< ((1 : Int32) &&& 31) = nI (2 * z) := by
        intro z
        show nI z <<< (nI 1 &&& 31) = _
        rw [ni_shl z (by decide), Nat.mul_comm]
      rw [e1, ni_or, or_bit] at hx
      subst hx
      refine ⟨k + 1, ?_⟩
      have := cn_32 hn hG h (show k < n by omega) (post := post) (K4 := F_X12_codeNow_4 dark (nI n) by' o post (j + 1)) (by have := ih (k + 1) (by omega); rw [hG.2.1] at this; exact this) k 0 (by omega)
      rw [hG.2.1] at this
      rw [Nat.mul_comm 2]
      exact this
  exact main n 0 (by omega)
theorem f_beginsOrders {n : Nat} (hn : n ≤ 6) {o : Nat → Int32} {post : (Nat → Int32) → Prop} (K : ∀ o', OrdA o' (List.range n) n → post o') : F_X12_beginsOrders (nI n) o post := by
  unfold F_X12_beginsOrders
  refine ⟨n + 1, ?_⟩
  have main : ∀ j k (o : Nat → Int32), k + j = n → (∀ i, i < k → o i = nI i) → F_X12_beginsOrders_2 (nI n) post (j + 1) (nI k) o := by
    intro j
    induction j with
    | zero =>
      intro k o hk ho
      have : k = n := by omega
      subst this
      unfold F_X12_beginsOrders_2
      refine br1 (Int32.le_refl _) (K o ⟨by simp, fun i hi => ?_⟩)
      have e : (List.range k).getD i 0 = i := by simp [List.getD_eq_getElem?_getD, List.getElem?_range hi]
      rw [e, ho i hi]
      exact ⟨rfl, hi⟩
    | succ j ih =>
      intro k o hk ho
      unfold F_X12_beginsOrders_2
      refine br2 (nI_ge (by omega) (by omega)) ⟨vp_in_nI (by omega) (by decide), ?_⟩
      rw [nI_clamp (by omega), nI_1]
      refine ih (k + 1) _ (by omega) ?_
      intro i hi
      by_cases e : i = k
      · subst e; exact upd_in
      · rw [upd_out e]; exact ho i (by omega)
  exact main n 0 o (by omega) (fun i hi => absurd hi (Nat.not_lt_zero _))
theorem lex_head : ∀ n, n ≤ 6 → (lex n).head? = some (List.range n) := by decide +kernel
