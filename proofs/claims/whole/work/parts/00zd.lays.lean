/-! the reference's levels -/
def lvl (k : KD) (n : Nat) : List Nat := if n ≤ kSz k then (CT n (kDk k)).filter (fun c => keeps k n c) else []
theorem nT_bit {k T : Nat} (hk : k < 2 ^ 31) (hT : 1 ≤ T) (hT2 : T < 32) : ((nI k >>> ((nI T + (-1)) &&& 31)) &&& 1) = nI (k.testBit (T - 1)).toNat := by
  have e : nI T + (-1) = nI (T - 1) := by rw [show T = (T - 1) + 1 by omega, ni_dec]; rfl
  rw [e, ni_tb hk (by omega)]
theorem nT_dec {T : Nat} (hT : 1 ≤ T) : nI T + (-1) + (-1) = nI (T - 1) + (-1) := by
  have e : nI T + (-1) = nI (T - 1) := by rw [show T = (T - 1) + 1 by omega, ni_dec]; rfl
  rw [e]
theorem spI_snd (k : Nat) : ∀ j c T, (spI k j c T).2 = T - j
  | 0, c, T => rfl
  | j + 1, c, T => by rw [spI, spI_snd k j]; omega
theorem sp_35 {n k : Nat} {post : Int32 → Prop} {K22 : Int32 → Int32 → Int32 → Int32 → Int32 → Prop} {a : Nat} (ha : a ≤ 6) (hk : k < 2 ^ 31) : ∀ j b c T, b + j = a → j ≤ T → T < 32 → K22 (nI n) (nI k) (nI (spI k j c T).1) (nI (spI k j c T).2 + (-1)) (nI (a + 1)) → F_X12_spread_35 post K22 (j + 1) (nI n) (nI k) (nI c) (nI T + (-1)) (nI a) (nI b)
  | 0, b, c, T, hb, _, _, K => by
    have : b = a := by omega
    subst this
    unfold F_X12_spread_35
    refine br1 (Int32.le_refl _) ?_
    rw [nI_1]; exact K
  | j + 1, b, c, T, hb, hT, hT2, K => by
    unfold F_X12_spread_35
    refine br2 (nI_ge (by omega) (by omega)) ?_
    intro x hx
    rw [nT_bit hk (by omega) hT2, nI_dbl] at hx
    subst hx
    rw [nT_dec (by omega), nI_1]
    rw [spI] at K
    exact sp_35 ha hk j (b + 1) _ (T - 1) (by omega) (by omega) (by omega) K
theorem sh_31 {n k : Nat} {post : Int32 → Prop} {K19 : Int32 → Int32 → Int32 → Int32 → Int32 → Prop} {a : Nat} (ha : a ≤ 6) (hk : k < 2 ^ 31) : ∀ j b c T, b + j = a → j ≤ T → T < 32 → K19 (nI n) (nI k) (nI (spI k j c T).1) (nI (spI k j c T).2 + (-1)) (nI (a + 1)) → F_X12_shorten_31 post K19 (j + 1) (nI n) (nI k) (nI c) (nI T + (-1)) (nI a) (nI b)
  | 0, b, c, T, hb, _, _, K => by
    have : b = a := by omega
    subst this
    unfold F_X12_shorten_31
    refine br1 (Int32.le_refl _) ?_
    rw [nI_1]; exact K
  | j + 1, b, c, T, hb, hT, hT2, K => by
    unfold F_X12_shorten_31
    refine br2 (nI_ge (by omega) (by omega)) ?_
    intro x hx
    rw [nT_bit hk (by omega) hT2, nI_dbl] at hx
    subst hx
    rw [nT_dec (by omega), nI_1]
    rw [spI] at K
    exact sh_31 ha hk j (b + 1) _ (T - 1) (by omega) (by omega) (by omega) K
theorem tri (n : Nat) : n * (n - 1) / 2 + n = LN n := by
  cases n with
  | zero => rfl
  | succ m =>
    show (m + 1) * m / 2 + (m + 1) = LN (m + 1)
    rw [LN_succ, Nat.mul_comm]; rfl
theorem f_spread {n k : Nat} {dk : Bool} (hn : n ≤ 6) (hk : k < 2 ^ 31) {post : Int32 → Prop} (K : post (nI (spr n dk k))) : F_X12_spread (nI n) (nI k) (nI dk.toNat) post := by
  unfold F_X12_spread
  unfold spr at K
  refine ⟨fun g => ⟨n + 1, ?_⟩, fun g => ?_⟩
  · rw [bnz] at g
    rw [g] at K
    have hq : n * (n - 1) ≤ 6 * 6 := Nat.mul_le_mul hn (by omega)
    have e : (nI n * (nI n - 1)) / 2 - 1 = nI (n * (n - 1) / 2) + (-1) := by
      rcases Nat.eq_zero_or_pos n with rfl | hp
      · decide
      · have : nI n - 1 = nI (n - 1) := by show nI n - nI 1 = _; rw [ni_sub (by omega)]
        rw [this, ni_mul, Int32.sub_eq_add_neg]
        show nI _ / nI 2 + _ = _
        rw [ni_div (by omega) (by decide) (by decide)]
    rw [e]
    have main : ∀ j a c T, a + j = n → T + a * (a - 1) / 2 = n * (n - 1) / 2 → post (nI (spO k j a c T)) → F_X12_spread_22 post (j + 1) (nI n) (nI k) (nI c) (nI T + (-1)) (nI a) := by
      intro j
      induction j with
      | zero =>
        intro a c T ha hT K2
        have : a = n := by omega
        subst this
        unfold F_X12_spread_22
        exact br1 (Int32.le_refl _) K2
      | succ j ih =>
        intro a c T ha hT K2
        unfold F_X12_spread_22
        refine br2 (nI_ge (by omega) (by omega)) ⟨a + 1, ?_⟩
        have e1 : nI c <<< ((1 : Int32) &&& 31) = nI (2 * c) := by
          show nI c <<< (nI 1 &&& 31) = _
          rw [ni_shl c (by decide), Nat.mul_comm]
        rw [e1]
        have t1 := tri a
        have t2 := tri (a + 1)
        have t3 := LN_succ a
        have t4 := tri n
        have t5 := LN_mono (show a + 1 ≤ n by omega)
        have t6 : a + 1 - 1 = a := by omega
        have t7 : ∀ n, n ≤ 6 → ∀ a, a < n → (a + 1) * (a + 1 - 1) / 2 ≤ n * (n - 1) / 2 := by decide
        have t8 := t7 n hn a (by omega)
        refine sp_35 (by omega) hk a 0 (2 * c) T (by omega) (by omega) (by omega) ?_
        rw [spI_snd]
        rw [spO, spI_snd] at K2
        exact ih (a + 1) _ (T - a) (by omega) (by omega) K2
    exact main n 0 0 (n * (n - 1) / 2) (by omega) (by omega) K
  · rw [bnn g] at K
    exact K
theorem f_shorten {n k : Nat} {dk : Bool} (hn : n ≤ 6) (hk : k < 2 ^ 31) {post : Int32 → Prop} (K : post (nI (shr n dk k))) : F_X12_shorten (nI n) (nI k) (nI dk.toNat) post := by
  unfold F_X12_shorten
  unfold shr at K
  refine ⟨fun g => f_lengthOf (by omega) ⟨n + 1, ?_⟩, fun g => ?_⟩
  · rw [bnz] at g
    rw [g] at K
    have hL6 := LN_mono hn
    have h6 : LN 6 = 21 := rfl
    have e : nI (LN n) - 1 = nI (LN n) + (-1) := by rw [Int32.sub_eq_add_neg]
    rw [e]
    have main : ∀ j a c T, a + j = n → T + LN a = LN n → post (nI (shO k j a c T)) → F_X12_shorten_19 post (j + 1) (nI n) (nI k) (nI c) (nI T + (-1)) (nI a) := by
      intro j
      induction j with
      | zero =>
        intro a c T ha hT K2
        have : a = n := by omega
        subst this
        unfold F_X12_shorten_19
        exact br1 (Int32.le_refl _) K2
      | succ j ih =>
        intro a c T ha hT K2
        unfold F_X12_shorten_19
        have t3 := LN_succ a
        have t5 := LN_mono (show a + 1 ≤ n by omega)
        refine br2 (nI_ge (by omega) (by omega)) ⟨a + 1, ?_⟩
        rw [nT_dec (by omega)]
        refine sh_31 (by omega) hk a 0 c (T - 1) (by omega) (by omega) (by omega) ?_
        rw [spI_snd]
        rw [shO, spI_snd] at K2
        exact ih (a + 1) _ (T - 1 - a) (by omega) (by omega) K2
    exact main n 0 0 (LN n) (by omega) (by rw [LN_0]; rfl) K
  · rw [bnn g] at K
    exact K
theorem f_codesOf {n : Nat} {dk : Bool} (hn : n ≤ 6) {post : Int32 → Prop} (K : post (nI (2 ^ ncod n dk))) : F_X12_codesOf (nI n) (nI dk.toNat) post := by
  unfold F_X12_codesOf F_X12_codesOf_19
  unfold ncod at K
  have hL6 := LN_mono hn
  have h6 : LN 6 = 21 := rfl
  refine ⟨fun g => ?_, fun g => f_lengthOf (by omega) ?_⟩
  · rw [bnz] at g
    rw [g] at K
    have hq : n * (n - 1) ≤ 6 * 6 := Nat.mul_le_mul hn (by omega)
    have e : (nI n * (nI n - 1)) / 2 = nI (n * (n - 1) / 2) := by
      rcases Nat.eq_zero_or_pos n with rfl | hp
      · decide
      · have : nI n - 1 = nI (n - 1) := by show nI n - nI 1 = _; rw [ni_sub (by omega)]
        rw [this, ni_mul]
        show nI _ / nI 2 = _
        rw [ni_div (by omega) (by decide) (by decide)]
    rw [e, ni_1shl (by omega)]
    exact K
  · rw [bnn g] at K
    rw [ni_1shl (by omega)]
    exact K
/-- the marks, as one number -/
def SeenR (N : Nat) (seen : Nat → Int32) (M : Nat) : Prop := ∀ i, i < N → seen i = nI (M.testBit i).toNat
theorem ncod_le {n : Nat} {dk : Bool} (h : n ≤ (if dk then 5 else 6)) : ncod n dk ≤ 15 := by
  have a : ∀ n, n ≤ 5 → LN n ≤ 15 := by decide
  have b : ∀ n, n ≤ 6 → n * (n - 1) / 2 ≤ 15 := by decide
  unfold ncod
  cases dk with
  | true => exact a n h
  | false => exact b n h
theorem nar1 : vp_nar .boolean 1 = 1 := by decide
theorem nar0 : vp_nar .boolean 0 = 0 := by decide
theorem f_beginsClasses {n : Nat} {dk : Bool} (h : n ≤ (if dk then 5 else 6)) {seen : Nat → Int32} {post : (Nat → Int32) → Prop} (K : ∀ s, (∀ i, i < 2 ^ ncod n dk → s i = 0) → post s) : F_X12_beginsClasses seen (nI n) (nI dk.toNat) post := by
  have hn : n ≤ 6 := by cases dk <;> simp at h <;> omega
  have hc := ncod_le h
  have p15 : 2 ^ ncod n dk ≤ 2 ^ 15 := Nat.pow_le_pow_right (by decide) hc
  unfold F_X12_beginsClasses
  refine ⟨2 ^ ncod n dk + 1, ?_⟩
  have main : ∀ j i (s : Nat → Int32), i + j = 2 ^ ncod n dk → (∀ x, x < i → s x = 0) → F_X12_beginsClasses_2 post (j + 1) (nI n) (nI dk.toNat) (nI i) s := by
    intro j
    induction j with
    | zero =>
      intro i s hi hs
      unfold F_X12_beginsClasses_2
      refine f_codesOf hn (br1 (nI_le (by omega) (by omega)) (K s ?_))
      intro x hx
      exact hs x (by omega)
    | succ j ih =>
      intro i s hi hs
      unfold F_X12_beginsClasses_2
      refine f_codesOf hn (br2 (nI_ge (by omega) (by omega)) ⟨vp_in_nI (by omega) (by decide), ?_⟩)
      rw [nI_clamp (by omega), nI_1, nar0]
      refine ih (i + 1) _ (by omega) ?_
      intro x hx
      by_cases e : x = i
      · subst e; exact upd_in
      · rw [upd_out e]; exact hs x (by omega)
  exact main _ 0 seen (by omega) (fun x hx => absurd hx (Nat.not_lt_zero _))
theorem bf_lt {B : Nat → Nat} {v : Nat} : ∀ (p : List Nat) (a t : Nat), a < 2 ^ t → bf B v a p < 2 ^ (t + p.length)
  | [], a, t, h => h
  | u :: p, a, t, h => by
    show bf B v (2 * a + ((B v).testBit u).toNat) p < _
    have := bf_lt (B := B) (v := v) p (2 * a + ((B v).testBit u).toNat) (t + 1) (by have := bool_lt2 ((B v).testBit u); rw [Nat.pow_succ]; omega)
    rw [List.length_cons, show t + (p.length + 1) = t + 1 + p.length by omega]
    exact this
def sumr : Nat → Nat → Nat
  | _, 0 => 0
  | i, j + 1 => i + sumr (i + 1) j
theorem scf_lt {B : Nat → Nat} : ∀ (r p : List Nat) (a t : Nat), a < 2 ^ t → scf B p a r < 2 ^ (t + sumr p.length r.length)
  | [], p, a, t, h => h
  | v :: r, p, a, t, h => by
    have := scf_lt (B := B) r (p ++ [v]) (bf B v a p) (t + p.length) (bf_lt p a t h)
    rw [List.length_append] at this
    rw [scf, List.length_cons, sumr, ← Nat.add_assoc]
    exact this
theorem shr_lt {n D : Nat} {B : Nat → Nat} {dk : Bool} {l : List Nat} (h : n ≤ (if dk then 5 else 6)) (hl : l.length = n) : shr n dk (cod D B l) < 32768 := by
  cases dk with
  | true =>
    have h : n ≤ 5 := h
    have := cod_lt D B l
    rw [hl] at this
    show cod D B l < 32768
    exact Nat.lt_of_lt_of_le this (show 2 ^ LN n ≤ 2 ^ 15 from Nat.pow_le_pow_right (by decide) (LN_mono h))
  | false =>
    have h : n ≤ 6 := h
    have h2 := shO_cod (D := D) (B := B) hl l [] 0 rfl
    rw [hl] at h2
    show shrF n (cod D B l) < 32768
    unfold shrF
    have e : LN n - LN ([] : List Nat).length = LN n := by simp [LN_0]
    rw [e] at h2
    rw [show shO (cod D B l) n 0 0 (LN n) = _ from h2]
    have := scf_lt (B := B) l [] 0 0 (by decide)
    have b : ∀ n, n ≤ 6 → sumr 0 n ≤ 15 := by decide
    rw [hl] at this
    exact Nat.lt_of_lt_of_le this (show _ ≤ 2 ^ 15 from Nat.pow_le_pow_right (by decide) (by have := b n h; simp; omega))
theorem seen_set {N : Nat} {seen : Nat → Int32} {M r : Nat} (h : SeenR N seen M) : SeenR N (upd seen r 1) (M ||| 2 ^ r) := by
  intro i hi
  rw [tb_or_pow]
  by_cases e : i = r
  · subst e; rw [upd_in]; simp; rfl
  · have : ¬ r = i := fun g => e g.symm
    rw [upd_out e, h i hi]; simp [this]
theorem f_marksLike {n c M N : Nat} {dk : Bool} (h1 : 1 ≤ n) (h : n ≤ (if dk then 5 else 6)) (hc : c < 2 ^ LN n) {dark nodes : Int32} {by0 o0 seen : Nat → Int32} (hM : SeenR N seen M) {post : Int32 → Int32 → (Nat → Int32) → (Nat → Int32) → (Nat → Int32) → Prop} (K : ∀ dark nodes by' o s, RG n (dkM n c) (byM n c) dark nodes by' → SeenR N s (mkF n dk c M) → post dark nodes by' o s) : F_X12_marksLike dark nodes by0 o0 seen (nI n) (nI c) (nI dk.toNat) post := by
  have hn : n ≤ 6 := by cases dk <;> simp at h <;> omega
  unfold F_X12_marksLike
  refine f_takesCode hn hc (fun dark nodes by' hG => ?_)
  have hG2 := hG.2.1
  subst hG2
  refine f_beginsOrders hn (fun o' ho' => ?_)
  obtain ⟨L, hL⟩ := lex_cons n hn
  refine ⟨L.length + 1, ?_⟩
  have body : ∀ (l : List Nat) (o seen : Nat → Int32) (M : Nat) (f : Nat), OrdA o l n → SeenR N seen M → (∀ s, SeenR N s (M ||| 2 ^ shr n dk (cod (dkM n c) (byM n c) l)) → F_X12_nextOrder (nI n) o (fun r26 t_order_26 => ((¬ r26 = 0 → F_X12_marksLike_10 post f (nI n) (nI dk.toNat) dark (nI n) by' t_order_26 s) ∧ (r26 = 0 → post dark (nI n) by' t_order_26 s)))) → F_X12_marksLike_10 post (f + 1) (nI n) (nI dk.toNat) dark (nI n) by' o seen := by
    intro l o seen M f ho hM k
    unfold F_X12_marksLike_10
    have hcl := cod_lt21 (D := dkM n c) (B := byM n c) (l := l) hn (by rw [ho.1]; exact Nat.le_refl _)
    refine f_codeNow hn hG ho (f_shorten hn (by omega) ?_)
    have hs := shr_lt (D := dkM n c) (B := byM n c) h ho.1
    refine ⟨vp_in_nI hs (by decide), ?_⟩
    rw [nI_clamp (by omega), nar1]
    exact k _ (seen_set hM)
  have main : ∀ (L : List (List Nat)) (l : List Nat) (o seen : Nat → Int32) (M : Nat), chn n (l :: L) = true → OrdA o l n → SeenR N seen M → (∀ s o, SeenR N s ((l :: L).foldl (fun M l => M ||| 2 ^ shr n dk (cod (dkM n c) (byM n c) l)) M) → post dark (nI n) by' o s) → F_X12_marksLike_10 post (L.length + 1) (nI n) (nI dk.toNat) dark (nI n) by' o seen := by
    intro L
    induction L with
    | nil =>
      intro l o seen M hch ho hM k
      refine body l o seen M 0 ho hM (fun s hs => f_nextOrder hn h1 ho (fun _ => ?_) (fun l' o' e _ => ?_))
      · exact ⟨fun a => absurd rfl a, fun _ => k _ _ hs⟩
      · simp [chn] at hch
        rw [hch] at e; simp at e
    | cons l2 L ih =>
      intro l o seen M hch ho hM k
      simp only [chn, Bool.and_eq_true, beq_iff_eq] at hch
      refine body l o seen M (L.length + 1) ho hM (fun s hs => f_nextOrder hn h1 ho (fun e => ?_) (fun l' o' e ho' => ?_))
      · rw [hch.1] at e; simp at e
      · rw [hch.1] at e
        simp at e
        subst e
        exact ⟨fun _ => ih l2 o' s _ hch.2 ho' hs k, fun a => absurd a (by decide)⟩
  refine main L (List.range n) o' seen M (by rw [← hL]; exact chn_lex n hn) ho' hM (fun s o hs => K _ _ _ _ _ hG ?_)
  unfold mkF
  rw [hL]
  exact hs
/-- the levels ahead of one are laid -/
def LvUp (k : KD) (m : Nat) (forms many : Nat → Int32) : Prop := ∀ n, 1 ≤ n → n < m → many n = nI (lvl k n).length ∧ ∀ i, i < (lvl k n).length → forms (600 * n + i) = nI ((lvl k n).getD i 0)
theorem CT_len : ∀ dk n, n ≤ 6 → (CT n dk).length ≤ 544 := by decide +kernel
theorem CT_lt {n c : Nat} {dk : Bool} (h1 : 1 ≤ n) (h2 : n ≤ (if dk then 5 else 6)) (hc : c ∈ CT n dk) : c < 2 ^ LN n := (CT_facts h1 h2 hc).2.2.2.2.2.2.2.1
theorem lvl_len (k : KD) (n : Nat) (hn : n ≤ 6) : (lvl k n).length ≤ 544 := by
  unfold lvl
  split
  · exact Nat.le_trans (List.length_filter_le _ _) (CT_len _ n hn)
  · simp
theorem ll_39 {k : KD} (hk : KOk k) {n : Nat} (h1 : 1 ≤ n) (h2 : n ≤ kSz k) {w : Nat → Int32} (hw : WR k w) {post} {K127 : Int32 → Int32 → Int32 → (Nat → Int32) → (Nat → Int32) → (Nat → Int32) → (Nat → Int32) → (Nat → Int32) → Prop}
    (K : ∀ dark nodes by' forms many o seen, LvUp k (n + 1) forms many → K127 (nI n) dark nodes by' forms many o seen) : ∀ (j x M : Nat) (kept : List Nat) (dark nodes : Int32) (by' forms many o seen : Nat → Int32), x + j = 2 ^ ncod n (kDk k) → SeenR (2 ^ ncod n (kDk k)) seen M → LvUp k n forms many → many n = nI kept.length → (∀ i, i < kept.length → forms (600 * n + i) = nI (kept.getD i 0)) → kept ++ (cnF n (kDk k) j x M).filter (fun c => keeps k n c) = lvl k n → (∀ c ∈ cnF n (kDk k) j x M, c ∈ CT n (kDk k)) → F_X12_laysLevels_39 w post K127 (j + 1) (nI n) (nI x) dark nodes by' forms many o seen := by
  have hsz : n ≤ (if kDk k then 5 else 6) := Nat.le_trans h2 hk.2.1
  have hn : n ≤ 6 := by cases e : kDk k <;> rw [e] at hsz <;> simp at hsz <;> omega
  have hc15 := ncod_le hsz
  have p15 : 2 ^ ncod n (kDk k) ≤ 2 ^ 15 := Nat.pow_le_pow_right (by decide) hc15
  intro j
  induction j with
  | zero =>
    intro x M kept dark nodes by' forms many o seen hx hS hU hm hf he hin
    unfold F_X12_laysLevels_39
    refine f_isDarkKind hw (f_codesOf hn (br1 (nI_le (by omega) (by omega)) (K _ _ _ _ _ _ _ ?_)))
    intro n' g1 g2
    rw [cnF, List.filter_nil, List.append_nil] at he
    by_cases e : n' = n
    · subst e; rw [← he]; exact ⟨hm, hf⟩
    · exact hU n' g1 (by omega)
  | succ j ih =>
    intro x M kept dark nodes by' forms many o seen hx hS hU hm hf he hin
    unfold F_X12_laysLevels_39 F_X12_laysLevels_121
    refine f_isDarkKind hw (f_codesOf hn (br2 (nI_ge (by omega) (by omega)) ⟨vp_in_nI (by omega) (by decide), ?_⟩))
    rw [nI_clamp (by omega), hS x (by omega), nI_1]
    rw [cnF] at he hin
    refine ⟨fun g => ?_, fun g => ?_⟩
    · rw [bnz] at g
      rw [if_neg (by rw [g]; decide)] at he hin
      have hcin := hin _ (List.mem_cons_self ..)
      have hclt := CT_lt h1 hsz hcin
      refine f_isDarkKind hw (f_spread hn (by omega) (f_isDarkKind hw (f_marksLike h1 hsz hclt hS (fun dark nodes by' o s hG hs => ?_))))
      refine f_keepsRules hk h1 h2 hcin hG hw ⟨fun g2 => ?_, fun g2 => ?_⟩
      · have g2 := bnn g2
        rw [List.filter_cons_of_pos (by simpa using g2)] at he
        have hlen : (kept ++ spr n (kDk k) x :: (cnF n (kDk k) j (x + 1) (mkF n (kDk k) (spr n (kDk k) x) M)).filter (fun c => keeps k n c)).length ≤ 544 := by rw [he]; exact lvl_len k n hn
        rw [List.length_append, List.length_cons] at hlen
        have e1 : (600 : Int32) * nI n + nI kept.length = nI (600 * n + kept.length) := by
          rw [show (600 : Int32) * nI n = nI (600 * n) from ni_mul 600 n, nI_add]
        rw [nI_clamp (show n < 2 ^ 31 by omega), hm, e1]
        refine ⟨vp_in_nI (by omega) (by decide), vp_in_nI (by omega) (by decide), vp_in_nI (by omega) (by decide), vp_in_nI (by omega) (by decide), ?_⟩
        rw [nI_clamp (by omega), nI_1]
        refine ih (x + 1) _ (kept ++ [spr n (kDk k) x]) dark nodes by' _ _ o s (by omega) hs ?_ ?_ ?_ (by rw [List.append_assoc]; exact he) (fun c hc => hin c (List.mem_cons_of_mem _ hc))
        · intro n' a b
          have hl := lvl_len k n' (by omega)
          rw [upd_out (show n' ≠ n by omega)]
          refine ⟨(hU n' a b).1, fun i hi => ?_⟩
          rw [upd_out (by omega)]
          exact (hU n' a b).2 i hi
        · rw [upd_in]; simp
        · intro i hi
          rw [List.length_append] at hi
          simp at hi
          by_cases e : i = kept.length
          · subst e; rw [upd_in]; simp [List.getD_eq_getElem?_getD]
          · rw [upd_out (by omega), hf i (by omega)]
            simp [List.getD_eq_getElem?_getD, List.getElem?_append_left (show i < kept.length by omega)]
      · rw [bnz] at g2
        rw [List.filter_cons_of_neg (by simp [g2])] at he
        exact ih (x + 1) _ kept dark nodes by' forms many o s (by omega) hs hU hm hf he (fun c hc => hin c (List.mem_cons_of_mem _ hc))
    · have g := bnn g
      rw [if_pos g] at he hin
      exact ih (x + 1) M kept dark nodes by' forms many o seen (by omega) hS hU hm hf he hin
theorem f_laysLevels {k : KD} (hk : KOk k) {w : Nat → Int32} (hw : WR k w) {dark nodes : Int32} {by' forms many o seen : Nat → Int32} {post : Int32 → Int32 → (Nat → Int32) → (Nat → Int32) → (Nat → Int32) → (Nat → Int32) → (Nat → Int32) → Prop} (K : ∀ dark nodes by' forms many o seen, LvUp k 7 forms many → post dark nodes by' forms many o seen) : F_X12_laysLevels w dark nodes by' forms many o seen post := by
  unfold F_X12_laysLevels
  refine ⟨7, ?_⟩
  have hs1 := hk.1
  have hs6 : kSz k ≤ 6 := by have := hk.2.1; cases e : kDk k <;> rw [e] at this <;> simp at this <;> omega
  have e0 : w (0 : Int32).toNatClampNeg = nI (kSz k) := hw.1
  have main : ∀ j n (dark nodes : Int32) (by' forms many o seen : Nat → Int32), n + j = 7 → 1 ≤ n → LvUp k n forms many → F_X12_laysLevels_2 w post (j + 1) (nI n) dark nodes by' forms many o seen := by
    intro j
    induction j with
    | zero =>
      intro n dark nodes by' forms many o seen hn h1 hU
      have : n = 7 := by omega
      subst this
      unfold F_X12_laysLevels_2
      exact br1 (by decide) (K _ _ _ _ _ _ _ hU)
    | succ j ih =>
      intro n dark nodes by' forms many o seen hn h1 hU
      unfold F_X12_laysLevels_2 F_X12_laysLevels_127
      have zero : LvUp k n forms (upd many n 0) := by
        intro n' a b
        rw [upd_out (show n' ≠ n by omega)]
        exact hU n' a b
      refine br2 (nI_nlt (a := 6) (b := n) (by omega) (by decide)) ⟨vp_in_nI (by omega) (by decide), vp_in_nI (n := 0) (by decide) (by decide), ?_⟩
      rw [e0, nI_clamp (by omega)]
      refine ⟨fun g => ?_, fun g => ?_⟩
      · have g := (nI_leI (by omega) (by omega)).mp g
        have hsz : n ≤ (if kDk k then 5 else 6) := Nat.le_trans g hk.2.1
        have p15 : 2 ^ ncod n (kDk k) ≤ 2 ^ 15 := Nat.pow_le_pow_right (by decide) (ncod_le hsz)
        refine f_isDarkKind hw (f_beginsClasses hsz (fun s hs => ⟨2 ^ ncod n (kDk k) + 1, ?_⟩))
        have hCT := cn_CT n (kDk k) h1 hsz
        refine ll_39 hk h1 g hw (fun dark nodes by' forms many o seen hU => by rw [nI_1]; exact ih (n + 1) _ _ _ _ _ _ _ (by omega) (by omega) hU) (2 ^ ncod n (kDk k)) 0 0 [] _ _ _ _ _ _ _ (by omega) (fun i hi => by rw [hs i hi]; simp; rfl) zero (by rw [upd_in]; rfl) (fun i hi => absurd hi (Nat.not_lt_zero _)) ?_ ?_
        · rw [hCT]; unfold lvl; rw [if_pos g]; rfl
        · rw [hCT]; exact fun c hc => hc
      · have g : ¬ n ≤ kSz k := fun e => g (nI_le e (by omega))
        rw [nI_1]
        refine ih (n + 1) _ _ _ _ _ _ _ (by omega) (by omega) ?_
        intro n' a b
        by_cases e : n' = n
        · subst e
          have : lvl k n' = [] := by unfold lvl; rw [if_neg g]
          rw [this, upd_in]
          exact ⟨rfl, fun i hi => absurd hi (Nat.not_lt_zero _)⟩
        · exact zero n' a (by omega)
  exact main 6 1 _ _ _ _ _ _ _ (by omega) (by omega) (fun n a b => by omega)
