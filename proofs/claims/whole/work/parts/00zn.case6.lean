def rmb (x v : Nat) : Nat := x % 2 ^ v ||| x / 2 / 2 ^ v * 2 ^ v
def skp (v u : Nat) : Nat := if u < v then u else u + 1
theorem rmb_i : ∀ v, v < 6 → ∀ x, x < 64 → ((nI x &&& (((1 : Int32) <<< (nI v &&& 31)) - 1)) ||| ((nI x >>> ((1 : Int32) &&& 31)) &&& ((((1 : Int32) <<< (nI v &&& 31)) - 1) ^^^ (-1)))) = nI (rmb x v) := by decide +kernel
theorem rmb_tb : ∀ v, v < 6 → ∀ x, x < 64 → ∀ u, u < 6 → (rmb x v).testBit u = x.testBit (skp v u) := by decide +kernel
theorem rmb_lt : ∀ v, v < 6 → ∀ x, x < 64 → rmb x v < 64 := by decide +kernel
theorem f_drops {n v D : Nat} {B : Nat → Nat} {dark nodes : Int32} {by' : Nat → Int32} (hn : n ≤ 6) (hv : v < n) (hD : D < 64) (hG : RG n D B dark nodes by') (hB : ∀ u, u < n → B u < 64) {post : Int32 → Int32 → (Nat → Int32) → Prop} (K : ∀ dark' nodes' b2, RG (n - 1) (rmb D v) (fun u => rmb (B (skp v u)) v) dark' nodes' b2 → post dark' nodes' b2) : F_X12_drops dark nodes by' (nI v) post := by
  obtain ⟨rfl, rfl, hD', hb⟩ := hG
  unfold F_X12_drops
  have hM := rmb_i v (by omega)
  generalize ((1 : Int32) <<< (nI v &&& 31)) - 1 = M at hM ⊢
  rw [hM D hD]
  refine ⟨n + 1, ?_⟩
  have loop2 : ∀ j i (w : Nat → Int32), i + j + 1 = n → v ≤ i → (∀ u, u < i → w u = nI (rmb (B (skp v u)) v)) → (∀ u, i ≤ u → u < n → w u = nI (rmb (B u) v)) → F_X12_drops_72 post (j + 1) (nI i) (nI (rmb D v)) (nI n) w := by
    intro j
    induction j with
    | zero =>
      intro i w hi hvi h1 h2
      unfold F_X12_drops_72
      rw [nI_1]
      refine br1 (nI_le (by omega) (by omega)) ?_
      rw [show nI n - 1 = nI (n - 1) from ni_sub (b := 1) (by omega)]
      exact K _ _ _ ⟨rfl, rfl, by have := rmb_lt v (by omega) D hD; omega, fun u hu => ⟨h1 u (by omega), by
        have : skp v u < n := by unfold skp; split <;> omega
        exact Nat.lt_trans (rmb_lt v (by omega) _ (hB _ this)) (by decide)⟩⟩
    | succ j ih =>
      intro i w hi hvi h1 h2
      unfold F_X12_drops_72
      rw [nI_1]
      refine br2 (nI_ge (by omega) (by omega)) ⟨vp_in_nI (by omega) (by decide), vp_in_nI (by omega) (by decide), ?_⟩
      rw [nI_clamp (by omega), nI_clamp (by omega)]
      refine ih (i + 1) _ (by omega) (by omega) (fun u hu => ?_) (fun u a b => ?_)
      · by_cases e : u = i
        · subst e
          rw [upd_in, h2 (u + 1) (by omega) (by omega), show skp v u = u + 1 by unfold skp; rw [if_neg (by omega)]]
        · rw [upd_out e]; exact h1 u (by omega)
      · rw [upd_out (by omega)]; exact h2 u (by omega) b
  have loop1 : ∀ j i (w : Nat → Int32), i + j = n → (∀ u, u < i → w u = nI (rmb (B u) v)) → (∀ u, i ≤ u → u < n → w u = nI (B u)) → F_X12_drops_29 post (j + 1) (nI v) M (nI i) (nI (rmb D v)) (nI n) w := by
    intro j
    induction j with
    | zero =>
      intro i w hi h1 h2
      unfold F_X12_drops_29
      refine br1 (nI_le (by omega) (by omega)) ⟨n - 1 - v + 1, ?_⟩
      refine loop2 (n - 1 - v) v w (by omega) (Nat.le_refl _) (fun u hu => ?_) (fun u a b => h1 u (by omega))
      rw [h1 u (by omega), show skp v u = u by unfold skp; rw [if_pos hu]]
    | succ j ih =>
      intro i w hi h1 h2
      unfold F_X12_drops_29
      refine br2 (nI_ge (by omega) (by omega)) ⟨vp_in_nI (by omega) (by decide), vp_in_nI (by omega) (by decide), vp_in_nI (by omega) (by decide), ?_⟩
      rw [nI_clamp (by omega), h2 i (Nat.le_refl _) (by omega), hM _ (hB i (by omega)), nI_1]
      refine ih (i + 1) _ (by omega) (fun u hu => ?_) (fun u a b => ?_)
      · by_cases e : u = i
        · subst e; rw [upd_in]
        · rw [upd_out e]; exact h1 u (by omega)
      · rw [upd_out (by omega)]; exact h2 u (by omega) b
  exact loop1 n 0 by' (by omega) (fun u hu => absurd hu (Nat.not_lt_zero _)) (fun u _ hu => (hb u hu).1)
theorem dkM64 {n c : Nat} (hn : n ≤ 6) : dkM n c < 64 := Nat.lt_of_lt_of_le (mask_lt _ _) (Nat.pow_le_pow_right (by decide) hn)
theorem byM64 {n c v : Nat} (hn : n ≤ 6) : byM n c v < 64 := Nat.lt_of_lt_of_le (byM_lt n c v) (Nat.pow_le_pow_right (by decide) hn)
/-- one node less, as the reference takes it -/
theorem f_without {k : KD} (hk : KOk k) {forms many : Nat → Int32} (hU : LvUp k 7 forms many) {dk nn fm la sy : Int32} {by0 fo od : Nat → Int32} {n i v : Nat} (h1 : 2 ≤ n) (h2 : n ≤ kSz k) (hi : i < (lvl k n).length) (hv : v < n) {post : Int32 → Int32 → Int32 → Int32 → Int32 → Int32 → (Nat → Int32) → (Nat → Int32) → (Nat → Int32) → Prop} (K : ∀ d f l nn s b o1 o2, post (oI (ixF (lvl k (n - 1)) (frm (n - 1) (rmb (dkM n ((lvl k n).getD i 0)) v) (fun u => rmb (byM n ((lvl k n).getD i 0) (skp v u)) v)))) d f l nn s b o1 o2) : F_X12_without forms many dk fm la nn sy by0 fo od (nI n) (nI i) (nI v) post := by
  have hsz := size_le hk
  unfold F_X12_without
  refine f_takes hk hU (by omega) h2 hi (fun dark nodes by' hG => f_drops (by omega) hv (dkM64 (by omega)) hG (fun u _ => byM64 (by omega)) (fun d2 n2 b2 hG2 => f_formNow (by omega) (by omega) hG2 (fun lasts sym first order _ => ?_)))
  rw [show nI n - 1 = nI (n - 1) from ni_sub (b := 1) (by omega)]
  refine f_numberOf12 hk hU (by omega) (by omega) ?_ (K _ _ _ _ _ _ _ _)
  obtain ⟨l, hl, e⟩ := frm_at (n := n - 1) (D := rmb (dkM n ((lvl k n).getD i 0)) v) (B := fun u => rmb (byM n ((lvl k n).getD i 0) (skp v u)) v)
  rw [← e]
  have := cod_lt (rmb (dkM n ((lvl k n).getD i 0)) v) (fun u => rmb (byM n ((lvl k n).getD i 0) (skp v u)) v) l
  rw [lex_mem_len hl] at this
  have := Nat.lt_of_lt_of_le this (Nat.pow_le_pow_right (by decide) (LN_mono (show n - 1 ≤ 6 by omega)))
  have e6 : LN 6 = 21 := rfl
  rw [e6] at this
  exact Nat.lt_trans this (by decide)
/-- the part that keeps the nodes up to the last one has the number of the code's beginning -/
theorem last_out {k : KD} (hk : KOk k) {n c : Nat} (h1 : 1 ≤ n) (h2 : n + 1 ≤ kSz k) (hc : c ∈ lvl k (n + 1)) : frm n (rmb (dkM (n + 1) c) n) (fun u => rmb (byM (n + 1) c (skp n u)) n) = c / 2 ^ (n + 1) ∧ c / 2 ^ (n + 1) ∈ lvl k n := by
  have hsz := size_le hk
  obtain ⟨_, m1, m2⟩ := lvl_mem hk hc
  obtain ⟨p1, p2⟩ := keeps_pre hk h2 h1 m1 m2
  refine ⟨?_, lvl_of (by omega) p1 p2⟩
  have hd : n ≤ (if kDk k then 5 else 6) := by have := hk.2.1; cases e : kDk k <;> rw [e] at this <;> simp at this ⊢ <;> omega
  have f := (CT_facts h1 hd p1).2.2.2.2.2.2.2.2.1
  refine Eq.trans ?_ f
  refine (frm_congr (fun l hl => cod_congr (fun v hv => ?_) (fun v hv u hu => ?_))).1
  · have hv := lex_mem hl v hv
    rw [rmb_tb n (by omega) _ (dkM64 (by omega)) v (by omega), show skp n v = v by unfold skp; rw [if_pos hv]]
    exact (pre_net hv).2.symm
  · have hv := lex_mem hl v hv
    have hu := lex_mem hl u hu
    show (rmb (byM (n + 1) c (skp n v)) n).testBit u = _
    rw [rmb_tb n (by omega) _ (byM64 (by omega)) u (by omega), show skp n v = v by unfold skp; rw [if_pos hv], show skp n u = u by unfold skp; rw [if_pos hu]]
    exact ((pre_net hv).1 u hu).symm
theorem mem_get {L : List Nat} {x : Nat} (h : x ∈ L) : ∃ i, i < L.length ∧ L.getD i 0 = x := by
  obtain ⟨i, hi, e⟩ := List.getElem_of_mem h
  exact ⟨i, hi, by rw [List.getD_eq_getElem?_getD, List.getElem?_eq_getElem hi]; exact e⟩
theorem f_parentOf {k : KD} (hk : KOk k) {forms many : Nat → Int32} (hU : LvUp k 7 forms many) {dk nn fm la sy : Int32} {by0 fo od : Nat → Int32} {n i : Nat} (h1 : 1 ≤ n) (h2 : n + 1 ≤ kSz k) (hi : i < (lvl k (n + 1)).length) {post : Int32 → Int32 → Int32 → Int32 → Int32 → Int32 → (Nat → Int32) → (Nat → Int32) → (Nat → Int32) → Prop} (K : ∀ q, q < (lvl k n).length → (lvl k n).getD q 0 = (lvl k (n + 1)).getD i 0 / 2 ^ (n + 1) → ∀ d f l nn s b o1 o2, post (nI q) d f l nn s b o1 o2) : F_X12_parentOf forms many dk fm la nn sy by0 fo od (nI (n + 1)) (nI i) post := by
  have hsz := size_le hk
  unfold F_X12_parentOf F_X12_parentOf_18
  refine br3 (fun e => by have := ni_inj (b := 1) (by omega) (by decide) e; omega) ?_
  rw [show nI (n + 1) - 1 = nI n from ni_sub (b := 1) (by omega)]
  refine f_without hk hU (by omega) h2 hi (by omega) (fun d f l nn s b o1 o2 => ?_)
  obtain ⟨e, hm⟩ := last_out hk h1 h2 (getD_mem hi)
  obtain ⟨q, hq, e2⟩ := mem_get hm
  rw [show n + 1 - 1 = n by omega, e, ix_some (lvl_up k (by omega)) hq e2]
  exact K q hq e2 _ _ _ _ _ _ _ _
theorem LB_uniq {L : List Nat} {x t s : Nat} (h1 : LB L x t) (h2 : LB L x s) : t = s := by
  obtain ⟨a1, a2, a3⟩ := h1
  obtain ⟨b1, b2, b3⟩ := h2
  rcases Nat.lt_trichotomy t s with h | h | h
  · have := b2 t h; have := a3 t (Nat.le_refl _) (by omega); omega
  · exact h
  · have := a2 s h; have := b3 s (Nat.le_refl _) (by omega); omega
theorem LB_mono {L : List Nat} {x y t s : Nat} (h : x ≤ y) (h1 : LB L x t) (h2 : LB L y s) : t ≤ s := by
  obtain ⟨a1, a2, a3⟩ := h1
  obtain ⟨b1, b2, b3⟩ := h2
  rcases Nat.lt_or_ge s t with g | g
  · have := a2 s g; have := b3 s (Nat.le_refl _) (by omega); omega
  · exact g
theorem f_aheadX {k : KD} (hk : KOk k) {total : Int32} {codes firsts : Nat → Int32} (hL : LvX k total codes firsts) {n x : Nat} (h1 : 1 ≤ n) (h2 : n ≤ 7) (hx : x < 2 ^ 31) {post : Int32 → Prop} (K : ∀ t, LB (lvl k n) x t → post (nI t)) : F_X3_ahead total codes firsts (nI n) (nI x) post := by
  rcases Nat.lt_or_ge n 7 with h | h
  · exact f_ahead hk hL h1 (by omega) hx K
  · have : n = 7 := by omega
    subst this
    have hsz := size_le hk
    have e7 : lvl k 7 = [] := by unfold lvl; rw [if_neg (by omega)]
    obtain ⟨l1, l2, _⟩ := hL
    unfold F_X3_ahead F_X3_amount F_X3_firstOf F_X3_firstOf_22 F_X3_firstOf_26
    rw [nI_1]
    refine br2 (nlt0 (by decide)) (br1 (nI_le (a := 8) (b := 8) (by decide) (by decide)) (br2 (nlt0 (by decide)) (br2 (nI_ge (b := 8) (by decide) (by decide)) ⟨vp_in_nI (by decide) (by decide), ?_⟩)))
    rw [nI_clamp (by decide), l2 7 (by decide) (by decide), l1]
    refine (?_ : ∃ n12, F_X3_ahead_12 (nI (off k 7)) codes firsts post n12 (nI 7) (nI x) 0 (nI (off k 7) - nI (off k 7)) 0)
    rw [Int32.sub_self]
    refine ⟨1, ?_⟩
    unfold F_X3_ahead_12 F_X3_ahead_62
    refine br2 (by decide) (br1 (by decide) ?_)
    exact K 0 ⟨Nat.zero_le _, fun i hi => absurd hi (Nat.not_lt_zero _), fun i _ hi => by rw [e7] at hi; simp at hi⟩
theorem f_firstHeir {k : KD} (hk : KOk k) {total : Int32} {codes firsts : Nat → Int32} (hL : LvX k total codes firsts) {n d i : Nat} (h1 : 1 ≤ n) (h2 : n ≤ kSz k) (hnd : n ≤ d) (hd : d ≤ 7) (hi : i < (lvl k n).length) (hx : (lvl k n).getD i 0 * 2 ^ (LN d - LN n) < 2 ^ 31) {post : Int32 → Prop} (K : ∀ t, LB (lvl k d) ((lvl k n).getD i 0 * 2 ^ (LN d - LN n)) t → post (nI t)) : F_X3_firstHeir total codes firsts (nI n) (nI i) (nI d) post := by
  have hsz := size_le hk
  have hl := LN_mono hnd
  have hd7 := LN_mono hd
  have e7 : LN 7 = 28 := rfl
  unfold F_X3_firstHeir
  obtain ⟨c1, c2⟩ := lv_codes hL h1 (by omega) hi
  refine f_codeOfI hL.2.1 h1 (by omega) (by omega) c1 c2 (f_bits (by omega) (f_bits (by omega) ?_))
  rw [ni_sub hl, ni_shl _ (by omega)]
  exact f_aheadX hk hL (by omega) hd hx K
theorem f_heirs {k : KD} (hk : KOk k) {total : Int32} {codes firsts : Nat → Int32} (hL : LvX k total codes firsts) {n d i : Nat} (h1 : 1 ≤ n) (h2 : n ≤ kSz k) (hnd : n ≤ d) (hd : d ≤ 7) (hi : i < (lvl k n).length) (hx : ((lvl k n).getD i 0 + 1) * 2 ^ (LN d - LN n) < 2 ^ 31) {post : Int32 → Prop} (K : ∀ t1 t2, t1 ≤ t2 → LB (lvl k d) ((lvl k n).getD i 0 * 2 ^ (LN d - LN n)) t1 → LB (lvl k d) (((lvl k n).getD i 0 + 1) * 2 ^ (LN d - LN n)) t2 → post (nI (t2 - t1))) : F_X3_heirs total codes firsts (nI n) (nI i) (nI d) post := by
  have hsz := size_le hk
  have hl := LN_mono hnd
  have hd7 := LN_mono hd
  have e7 : LN 7 = 28 := rfl
  have hle : (lvl k n).getD i 0 * 2 ^ (LN d - LN n) ≤ ((lvl k n).getD i 0 + 1) * 2 ^ (LN d - LN n) := Nat.mul_le_mul_right _ (by omega)
  unfold F_X3_heirs
  obtain ⟨c1, c2⟩ := lv_codes hL h1 (by omega) hi
  refine f_codeOfI hL.2.1 h1 (by omega) (by omega) c1 c2 (f_bits (by omega) (f_bits (by omega) ?_))
  rw [nI_1, ni_sub hl, ni_shl _ (by omega)]
  refine f_aheadX hk hL (by omega) hd hx (fun t2 b2 => f_firstHeir hk hL h1 h2 hnd hd hi (by omega) (fun t1 b1 => ?_))
  have := LB_mono hle b1 b2
  rw [ni_sub this]
  exact K t1 t2 this b1 b2
/-- which nets of the next level lie under a net -/
theorem under {L : List Nat} {x m t1 t2 : Nat} (h1 : LB L (x * m) t1) (h2 : LB L ((x + 1) * m) t2) (hm : 0 < m) {i : Nat} (hi : i < L.length) : L.getD i 0 / m = x ↔ t1 ≤ i ∧ i < t2 := by
  obtain ⟨a1, a2, a3⟩ := h1
  obtain ⟨b1, b2, b3⟩ := h2
  rw [Nat.div_eq_iff hm]
  refine ⟨fun ⟨p, q⟩ => ⟨?_, ?_⟩, fun ⟨p, q⟩ => ⟨?_, ?_⟩⟩
  · rcases Nat.lt_or_ge i t1 with g | g
    · have := a2 i g; omega
    · exact g
  · rcases Nat.lt_or_ge i t2 with g | g
    · exact g
    · have := b3 i g hi; rw [Nat.add_mul, Nat.one_mul] at this; omega
  · exact a3 i p hi
  · have := b2 i q; rw [Nat.add_mul, Nat.one_mul] at this; omega
theorem w_size {k : KD} {w : Nat → Int32} (hw : WR k w) : w (0 : Int32).toNatClampNeg = nI (kSz k) := hw.1
theorem f_childOf {k : KD} (hk : KOk k) {w forms many : Nat → Int32} (hw : WR k w) (hU : LvUp k 7 forms many) {dk nn fm la sy : Int32} {by0 fo od : Nat → Int32} {n i j t1 t2 : Nat} (h1 : 1 ≤ n) (h2 : n ≤ kSz k) (hi : i < (lvl k n).length) (hj : j < 2 ^ 31) (b1 : LB (lvl k (n + 1)) ((lvl k n).getD i 0 * 2 ^ (n + 1)) t1) (b2 : LB (lvl k (n + 1)) (((lvl k n).getD i 0 + 1) * 2 ^ (n + 1)) t2) (h12 : t1 ≤ t2) {post : Int32 → Int32 → Int32 → Int32 → Int32 → Int32 → (Nat → Int32) → (Nat → Int32) → (Nat → Int32) → Prop} (K1 : j < t2 - t1 → ∀ d f l nn s b o1 o2, post (nI (t1 + j)) d f l nn s b o1 o2) (K2 : t2 - t1 ≤ j → ∀ d f l nn s b o1 o2, post (-1) d f l nn s b o1 o2) : F_X12_childOf forms many w dk fm la nn sy by0 fo od (nI n) (nI i) (nI j) post := by
  have hsz := size_le hk
  unfold F_X12_childOf
  refine ⟨(lvl k (n + 1)).length + 1, ?_⟩
  have hln := lvl_len k n (by omega)
  have ht2 := b2.1
  have main : ∀ fu r x d f l nn s b o1 o2, x + fu = (lvl k (n + 1)).length → r < 2 ^ 31 → (x ≤ t1 ∧ r = j) ∨ (t1 ≤ x ∧ x ≤ t2 ∧ r + (x - t1) = j) ∨ (t2 ≤ x ∧ t2 - t1 ≤ j) → F_X12_childOf_6 forms many w post (fu + 1) (nI n) (nI i) (nI r) (nI x) d f l nn s b o1 o2 := by
    intro fu
    induction fu with
    | zero =>
      intro r x d f l nn s b o1 o2 hx hr hinv
      have hend : t2 - t1 ≤ j := by omega
      unfold F_X12_childOf_6 F_X12_childOf_62
      refine ⟨vp_in_nI (n := 0) (by decide) (by decide), ?_⟩
      rw [w_size hw]
      by_cases e : kSz k ≤ n
      · exact br1 (nI_le e (by omega)) (K2 hend _ _ _ _ _ _ _ _)
      · refine br2 (nI_ge (by omega) (by omega)) ?_
        rw [nI_1, many_at hU (by omega) (by omega)]
        have hl1 := lvl_len k (n + 1) (by omega)
        exact ⟨vp_in_nI (by omega) (by decide), br1 (nI_le (by omega) (by omega)) (K2 hend _ _ _ _ _ _ _ _)⟩
    | succ fu ih =>
      intro r x d f l nn s b o1 o2 hx hr hinv
      have e : n + 1 ≤ kSz k := by
        rcases Nat.lt_or_ge n (kSz k) with g | g
        · exact g
        · have : lvl k (n + 1) = [] := by unfold lvl; rw [if_neg (by omega)]
          rw [this] at hx
          simp at hx
      have hl1 := lvl_len k (n + 1) (by omega)
      have hu := under b1 b2 (Nat.pow_pos (by decide)) (show x < (lvl k (n + 1)).length by omega)
      unfold F_X12_childOf_6 F_X12_childOf_56
      refine ⟨vp_in_nI (n := 0) (by decide) (by decide), ?_⟩
      rw [w_size hw]
      refine br2 (nI_ge (by omega) (by omega)) ?_
      rw [nI_1, many_at hU (by omega) (by omega)]
      refine ⟨vp_in_nI (by omega) (by decide), br2 (nI_ge (by omega) (by omega)) (f_parentOf hk hU h1 e (by omega) (fun q hq e2 d f l nn s b o1 o2 => ⟨fun g => ?_, fun g => ?_⟩))⟩
      · have g := ni_inj (by omega) (by omega) g
        subst g
        have hu := hu.mp e2.symm
        by_cases r0 : r = 0
        · subst r0
          refine br4 rfl ?_
          have : x = t1 + j := by omega
          rw [this]
          exact K1 (by omega) _ _ _ _ _ _ _ _
        · refine br3 (fun e => r0 (ni_inj (by omega) (by decide) e)) ?_
          rw [nI_1]
          have er : nI r + (-1) = nI (r - 1) := by
            obtain ⟨r', rfl⟩ : ∃ r', r = r' + 1 := ⟨r - 1, by omega⟩
            exact ni_dec r'
          rw [er]
          exact ih (r - 1) (x + 1) _ _ _ _ _ _ _ _ (by omega) (by omega) (by omega)
      · have hu : ¬ (t1 ≤ x ∧ x < t2) := fun hh => by
          have := hu.mpr hh
          have hd : (lvl k n).Nodup := (lvl_up k (by omega)).imp (fun h => Nat.ne_of_lt h)
          exact g (by rw [getD_inj hd hq hi (by rw [e2, this])])
        rw [nI_1]
        exact ih r (x + 1) _ _ _ _ _ _ _ _ (by omega) hr (by omega)
  exact main _ j 0 _ _ _ _ _ _ _ _ (by omega) hj (Or.inl ⟨Nat.zero_le _, rfl⟩)
theorem f_children {k : KD} (hk : KOk k) {w forms many : Nat → Int32} (hw : WR k w) (hU : LvUp k 7 forms many) {dk nn fm la sy : Int32} {by0 fo od : Nat → Int32} {n i t1 t2 : Nat} (h1 : 1 ≤ n) (h2 : n ≤ kSz k) (hi : i < (lvl k n).length) (b1 : LB (lvl k (n + 1)) ((lvl k n).getD i 0 * 2 ^ (n + 1)) t1) (b2 : LB (lvl k (n + 1)) (((lvl k n).getD i 0 + 1) * 2 ^ (n + 1)) t2) (h12 : t1 ≤ t2) {post : Int32 → Int32 → Int32 → Int32 → Int32 → Int32 → (Nat → Int32) → (Nat → Int32) → (Nat → Int32) → Prop} (K : ∀ d f l nn s b o1 o2, post (nI (t2 - t1)) d f l nn s b o1 o2) : F_X12_children forms many w dk fm la nn sy by0 fo od (nI n) (nI i) post := by
  have hsz := size_le hk
  unfold F_X12_children
  refine ⟨(lvl k (n + 1)).length + 1, ?_⟩
  have hln := lvl_len k n (by omega)
  have ht2 := b2.1
  have main : ∀ fu c x d f l nn s b o1 o2, x + fu = (lvl k (n + 1)).length → c = min x t2 - min x t1 → F_X12_children_5 forms many w post (fu + 1) (nI n) (nI i) (nI c) (nI x) d f l nn s b o1 o2 := by
    intro fu
    induction fu with
    | zero =>
      intro c x d f l nn s b o1 o2 hx hc
      have hend : c = t2 - t1 := by omega
      subst hend
      unfold F_X12_children_5 F_X12_children_55
      refine ⟨vp_in_nI (n := 0) (by decide) (by decide), ?_⟩
      rw [w_size hw]
      by_cases e : kSz k ≤ n
      · exact br1 (nI_le e (by omega)) (K _ _ _ _ _ _ _ _)
      · refine br2 (nI_ge (by omega) (by omega)) ?_
        rw [nI_1, many_at hU (by omega) (by omega)]
        have hl1 := lvl_len k (n + 1) (by omega)
        exact ⟨vp_in_nI (by omega) (by decide), br1 (nI_le (by omega) (by omega)) (K _ _ _ _ _ _ _ _)⟩
    | succ fu ih =>
      intro c x d f l nn s b o1 o2 hx hc
      have e : n + 1 ≤ kSz k := by
        rcases Nat.lt_or_ge n (kSz k) with g | g
        · exact g
        · have : lvl k (n + 1) = [] := by unfold lvl; rw [if_neg (by omega)]
          rw [this] at hx
          simp at hx
      have hl1 := lvl_len k (n + 1) (by omega)
      have hu := under b1 b2 (Nat.pow_pos (by decide)) (show x < (lvl k (n + 1)).length by omega)
      unfold F_X12_children_5 F_X12_children_47
      refine ⟨vp_in_nI (n := 0) (by decide) (by decide), ?_⟩
      rw [w_size hw]
      refine br2 (nI_ge (by omega) (by omega)) ?_
      rw [nI_1, many_at hU (by omega) (by omega)]
      refine ⟨vp_in_nI (by omega) (by decide), br2 (nI_ge (by omega) (by omega)) (f_parentOf hk hU h1 e (by omega) (fun q hq e2 d f l nn s b o1 o2 => ?_))⟩
      rw [nI_1]
      by_cases g : q = i
      · subst g
        have hu := hu.mp e2.symm
        refine br4 rfl ?_
        rw [nI_1]
        exact ih (c + 1) (x + 1) _ _ _ _ _ _ _ _ (by omega) (by omega)
      · have hu : ¬ (t1 ≤ x ∧ x < t2) := fun hh => by
          have := hu.mpr hh
          have hd : (lvl k n).Nodup := (lvl_up k (by omega)).imp (fun h => Nat.ne_of_lt h)
          exact g (getD_inj hd hq hi (by rw [e2, this]))
        refine br3 (fun e => g (ni_inj (by omega) (by omega) e)) ?_
        rw [Int32.add_zero]
        exact ih c (x + 1) _ _ _ _ _ _ _ _ (by omega) (by omega)
  exact main _ 0 0 _ _ _ _ _ _ _ _ (by omega) (by omega)
