/-! the bits of the code of a list of nodes; nets out of codes, codes out of nets -/
theorem blk_tb (D : Nat) (B : Nat → Nat) (v : Nat) : ∀ (p : List Nat), (blk D B v p).testBit p.length = D.testBit v ∧ ∀ j, j < p.length → (blk D B v p).testBit (p.length - 1 - j) = (B v).testBit (p.getD j 0) := by
  intro p
  induction hn : p.length generalizing p with
  | zero =>
    have : p = [] := List.length_eq_zero_iff.mp hn
    subst this
    refine ⟨?_, fun j hj => absurd hj (Nat.not_lt_zero _)⟩
    show (D.testBit v).toNat.testBit 0 = _
    cases D.testBit v <;> rfl
  | succ m ih =>
    obtain ⟨q, u, rfl⟩ : ∃ q u, p = q ++ [u] := by
      rcases List.eq_nil_or_concat p with rfl | ⟨q, v, rfl⟩
      · simp at hn
      · exact ⟨q, v, by simp⟩
    have hq : q.length = m := by simp at hn; omega
    obtain ⟨h1, h2⟩ := ih q hq
    rw [blk_snoc]
    have hb := bool_lt2 ((B v).testBit u)
    have hi : ∀ i, (2 * blk D B v q + ((B v).testBit u).toNat).testBit (i + 1) = (blk D B v q).testBit i := by
      intro i
      rw [Nat.testBit_succ]
      congr 1; omega
    refine ⟨by rw [hi, h1], fun j hj => ?_⟩
    by_cases e : j = m
    · subst e
      have e1 : (q ++ [u]).getD j 0 = u := by simp [List.getD_eq_getElem?_getD, hq]
      rw [e1, show j + 1 - 1 - j = 0 by omega, Nat.testBit_zero]
      cases (B v).testBit u <;> simp <;> omega
    · have e1 : (q ++ [u]).getD j 0 = q.getD j 0 := by simp [List.getD_eq_getElem?_getD, List.getElem?_append_left (show j < q.length by omega)]
      rw [e1, show m + 1 - 1 - j = (m - 1 - j) + 1 by omega, hi]
      exact h2 j (by omega)
theorem cod_tb (D : Nat) (B : Nat → Nat) : ∀ (q : List Nat), (∀ i, i < q.length → (cod D B q).testBit (LN q.length - 1 - LN i) = D.testBit (q.getD i 0)) ∧ ∀ i j, j < i → i < q.length → (cod D B q).testBit (LN q.length - 2 - LN i - j) = (B (q.getD i 0)).testBit (q.getD j 0) := by
  intro q
  induction hn : q.length generalizing q with
  | zero => exact ⟨fun i hi => absurd hi (Nat.not_lt_zero _), fun i j _ hi => absurd hi (Nat.not_lt_zero _)⟩
  | succ m ih =>
    obtain ⟨p, v, rfl⟩ : ∃ p v, q = p ++ [v] := by
      rcases List.eq_nil_or_concat q with rfl | ⟨q, v, rfl⟩
      · simp at hn
      · exact ⟨q, v, by simp⟩
    have hq : p.length = m := by simp at hn; omega
    obtain ⟨h1, h2⟩ := ih p hq
    obtain ⟨g1, g2⟩ := blk_tb D B v p
    have hlt := blk_lt D B v p
    rw [hq] at g1 g2 hlt
    have hL := LN_succ m
    have hi : ∀ i, (cod D B (p ++ [v])).testBit i = if i < m + 1 then (blk D B v p).testBit i else (cod D B p).testBit (i - (m + 1)) := by
      intro i
      rw [cod_snoc, hq, Nat.mul_comm, Nat.testBit_two_pow_mul_add _ hlt]
    have at1 : ∀ i, i < m → (p ++ [v]).getD i 0 = p.getD i 0 := by
      intro i hi
      simp [List.getD_eq_getElem?_getD, List.getElem?_append_left (show i < p.length by omega)]
    have at2 : (p ++ [v]).getD m 0 = v := by simp [List.getD_eq_getElem?_getD, hq]
    refine ⟨fun i hil => ?_, fun i j hj hil => ?_⟩
    · rw [hi]
      by_cases e : i = m
      · subst e
        rw [if_pos (by omega), at2, show LN (i + 1) - 1 - LN i = i by omega, g1]
      · have := LN_mono (show i + 1 ≤ m by omega)
        have := LN_succ i
        rw [if_neg (by omega), at1 i (by omega), show LN (m + 1) - 1 - LN i - (m + 1) = LN m - 1 - LN i by omega]
        exact h1 i (by omega)
    · rw [hi]
      by_cases e : i = m
      · subst e
        rw [if_pos (by omega), at2, at1 j (by omega), show LN (i + 1) - 2 - LN i - j = i - 1 - j by omega]
        exact g2 j (by omega)
      · have := LN_mono (show i + 1 ≤ m by omega)
        have := LN_succ i
        rw [if_neg (by omega), at1 i (by omega), at1 j (by omega), show LN (m + 1) - 2 - LN i - j - (m + 1) = LN m - 2 - LN i - j by omega]
        exact h2 i j hj (by omega)
/-- rows of a net: symmetric, no node is joined to itself -/
def GB (n : Nat) (B : Nat → Nat) : Prop := (∀ u v, u < n → v < n → (B u).testBit v = (B v).testBit u) ∧ (∀ u, u < n → (B u).testBit u = false) ∧ ∀ u, u < n → B u < 2 ^ n
theorem gb_byM (n c : Nat) : GB n (byM n c) := by
  refine ⟨fun u v hu hv => byM_sym n c u v hu hv, fun u hu => ?_, fun u _ => byM_lt n c u⟩
  rw [byM_tb]; unfold egb; simp
theorem blk_map {D D2 : Nat} {B B2 : Nat → Nat} {f : Nat → Nat} {v : Nat} (hd : D2.testBit v = D.testBit (f v)) : ∀ {p : List Nat}, (∀ u ∈ p, (B2 v).testBit u = (B (f v)).testBit (f u)) → blk D2 B2 v p = blk D B (f v) (p.map f) := by
  intro p
  induction hn : p.length generalizing p with
  | zero =>
    have : p = [] := List.length_eq_zero_iff.mp hn
    subst this
    intro _
    show (D2.testBit v).toNat = (D.testBit (f v)).toNat
    rw [hd]
  | succ m ih =>
    obtain ⟨q, u, rfl⟩ : ∃ q u, p = q ++ [u] := by
      rcases List.eq_nil_or_concat p with rfl | ⟨q, v, rfl⟩
      · simp at hn
      · exact ⟨q, v, by simp⟩
    intro h
    have hq : q.length = m := by simp at hn; omega
    rw [List.map_append, List.map_cons, List.map_nil, blk_snoc, blk_snoc, ih hq (fun w hw => h w (List.mem_append_left _ hw)), h u (by simp)]
theorem cod_map {D D2 : Nat} {B B2 : Nat → Nat} {f : Nat → Nat} : ∀ {l : List Nat}, (∀ v ∈ l, D2.testBit v = D.testBit (f v)) → (∀ v ∈ l, ∀ u ∈ l, (B2 v).testBit u = (B (f v)).testBit (f u)) → cod D2 B2 l = cod D B (l.map f) := by
  intro l
  induction hn : l.length generalizing l with
  | zero =>
    have : l = [] := List.length_eq_zero_iff.mp hn
    subst this
    intro _ _; rfl
  | succ m ih =>
    obtain ⟨q, u, rfl⟩ : ∃ q u, l = q ++ [u] := by
      rcases List.eq_nil_or_concat l with rfl | ⟨q, v, rfl⟩
      · simp at hn
      · exact ⟨q, v, by simp⟩
    intro h1 h2
    have hq : q.length = m := by simp at hn; omega
    rw [List.map_append, List.map_cons, List.map_nil, cod_snoc, cod_snoc, List.length_map, ih hq (fun v hv => h1 v (List.mem_append_left _ hv)) (fun v hv u hu => h2 v (List.mem_append_left _ hv) u (List.mem_append_left _ hu)), blk_map (h1 u (by simp)) (fun w hw => h2 u (by simp) w (List.mem_append_left _ hw))]
/-- the net of the code of a list of nodes is the net of these nodes -/
theorem net_cod {n D : Nat} {B : Nat → Nat} (hB : GB n B) {q : List Nat} {m : Nat} (hm : q.length = m) (hq : ∀ x ∈ q, x < n) : (∀ v, v < m → (dkM m (cod D B q)).testBit v = D.testBit (q.getD v 0)) ∧ ∀ v u, v < m → u < m → (byM m (cod D B q) v).testBit u = (B (q.getD v 0)).testBit (q.getD u 0) := by
  subst hm
  obtain ⟨h1, h2⟩ := cod_tb D B q
  have hin : ∀ i, i < q.length → q.getD i 0 < n := by
    intro i hi
    refine hq _ ?_
    rw [List.getD_eq_getElem?_getD, List.getElem?_eq_getElem hi]
    exact List.getElem_mem hi
  refine ⟨fun v hv => ?_, fun v u hv hu => ?_⟩
  · rw [dkM_tb, decide_eq_true hv, Bool.true_and]
    exact h1 v hv
  · rw [byM_tb, decide_eq_true hu, Bool.true_and]
    unfold egb
    rcases Nat.lt_trichotomy u v with h | h | h
    · rw [decide_eq_true (show v ≠ u by omega), Bool.true_and, show max v u = v by omega, show min v u = u by omega, h2 v u h hv]
    · subst h
      rw [hB.2.1 _ (hin u hu)]; simp
    · rw [decide_eq_true (show v ≠ u by omega), Bool.true_and, show max v u = u by omega, show min v u = v by omega, h2 u v h hu]
      exact hB.1 _ _ (hin u hu) (hin v hv)
theorem cod_net {n D : Nat} {B : Nat → Nat} (hB : GB n B) {q : List Nat} {m : Nat} (hm : q.length = m) (hq : ∀ x ∈ q, x < n) {l : List Nat} (hl : ∀ x ∈ l, x < m) : cod (dkM m (cod D B q)) (byM m (cod D B q)) l = cod D B (l.map (fun i => q.getD i 0)) := by
  obtain ⟨h1, h2⟩ := net_cod (D := D) hB hm hq
  exact cod_map (fun v hv => h1 v (hl v hv)) (fun v hv u hu => h2 v u (hl v hv) (hl u hu))
theorem lex_mem {n : Nat} {l : List Nat} (h : l ∈ lex n) : ∀ x ∈ l, x < n := by
  have g : ∀ k p u l, l ∈ lv n k p u → (∀ x ∈ p, x < n) → ∀ x ∈ l, x < n := by
    intro k
    induction k with
    | zero => intro p u l h hp; simp [lv] at h; subst h; exact hp
    | succ k ih =>
      intro p u l h hp
      simp only [lv, List.mem_flatMap] at h
      obtain ⟨v, hv, h⟩ := h
      split at h
      · simp at h
      · refine ih _ _ l h ?_
        intro x hx
        rcases List.mem_append.mp hx with hx | hx
        · exact hp x hx
        · simp at hx; subst hx; exact List.mem_range.mp hv
  exact g n [] 0 l h (by simp)
theorem range_getD {n i : Nat} (h : i < n) : (List.range n).getD i 0 = i := by simp [List.getD_eq_getElem?_getD, List.getElem?_range h]
/-- a net is that of its code -/
theorem dkM_cod {n D : Nat} {B : Nat → Nat} (hB : GB n B) (hD : D < 2 ^ n) : dkM n (cod D B (List.range n)) = D := by
  apply Nat.eq_of_testBit_eq
  intro i
  by_cases hi : i < n
  · rw [(net_cod hB (by simp) (fun x hx => List.mem_range.mp hx)).1 i hi, range_getD hi]
  · rw [dkM_tb, decide_eq_false hi, Bool.false_and]
    exact (Nat.testBit_lt_two_pow (Nat.lt_of_lt_of_le hD (Nat.pow_le_pow_right (by decide) (by omega)))).symm
theorem byM_cod {n D : Nat} {B : Nat → Nat} (hB : GB n B) {v : Nat} (hv : v < n) : byM n (cod D B (List.range n)) v = B v := by
  apply Nat.eq_of_testBit_eq
  intro i
  by_cases hi : i < n
  · rw [(net_cod hB (by simp) (fun x hx => List.mem_range.mp hx)).2 v i hv hi, range_getD hi, range_getD hv]
  · rw [byM_tb, decide_eq_false hi, Bool.false_and]
    exact (Nat.testBit_lt_two_pow (Nat.lt_of_lt_of_le (hB.2.2 v hv) (Nat.pow_le_pow_right (by decide) (by omega)))).symm
theorem cod_congr {D D2 : Nat} {B B2 : Nat → Nat} {l : List Nat} (h1 : ∀ v ∈ l, D2.testBit v = D.testBit v) (h2 : ∀ v ∈ l, ∀ u ∈ l, (B2 v).testBit u = (B v).testBit u) : cod D2 B2 l = cod D B l := by
  have := cod_map (D := D) (D2 := D2) (B := B) (B2 := B2) (f := fun x => x) (l := l) h1 h2
  rw [List.map_id'] at this
  exact this
theorem frm_congr {n D D2 : Nat} {B B2 : Nat → Nat} (h : ∀ l ∈ lex n, cod D2 B2 l = cod D B l) : frm n D2 B2 = frm n D B ∧ ags n D2 B2 = ags n D B := by
  have e : frm n D2 B2 = frm n D B := by
    unfold frm
    have g : ∀ (Xs : List (List Nat)) (m : Nat), (∀ l ∈ Xs, cod D2 B2 l = cod D B l) → Xs.foldl (fun m l => min m (cod D2 B2 l)) m = Xs.foldl (fun m l => min m (cod D B l)) m := by
      intro Xs
      induction Xs with
      | nil => intro m _; rfl
      | cons x Xs ih => intro m hx; rw [List.foldl_cons, List.foldl_cons, hx x (by simp), ih _ (fun l hl => hx l (by simp [hl]))]
    exact g _ _ h
  refine ⟨e, ?_⟩
  unfold ags
  rw [e]
  exact List.filter_congr (fun l hl => by rw [h l hl])
theorem frm_cod {n D : Nat} {B : Nat → Nat} (hB : GB n B) (hD : D < 2 ^ n) : frm n (dkM n (cod D B (List.range n))) (byM n (cod D B (List.range n))) = frm n D B ∧ ags n (dkM n (cod D B (List.range n))) (byM n (cod D B (List.range n))) = ags n D B := by
  refine frm_congr (fun l hl => cod_congr (fun v hv => by rw [dkM_cod hB hD]) (fun v hv u hu => by rw [byM_cod hB (lex_mem hl v hv)]))
theorem bit_at : ∀ n, n ≤ 6 → ∀ t, t < LN n → (∃ i, i < n ∧ t = LN n - 1 - LN i) ∨ ∃ i, i < n ∧ ∃ j, j < i ∧ t = LN n - 2 - LN i - j := by decide +kernel
theorem cod_self {n c : Nat} (hn : n ≤ 6) (hc : c < 2 ^ LN n) : cod (dkM n c) (byM n c) (List.range n) = c := by
  have hlt := cod_lt (dkM n c) (byM n c) (List.range n)
  obtain ⟨h1, h2⟩ := cod_tb (dkM n c) (byM n c) (List.range n)
  rw [List.length_range] at hlt h1 h2
  apply Nat.eq_of_testBit_eq
  intro t
  by_cases ht : t < LN n
  · rcases bit_at n hn t ht with ⟨i, hi, rfl⟩ | ⟨i, hi, j, hj, rfl⟩
    · rw [h1 i hi, range_getD hi, dkM_tb, decide_eq_true hi]; rfl
    · rw [h2 i j hj hi, range_getD hi, range_getD (show j < n by omega), byM_tb, decide_eq_true (show j < n by omega), Bool.true_and]
      unfold egb
      rw [decide_eq_true (show i ≠ j by omega), Bool.true_and, show max i j = i by omega, show min i j = j by omega]
  · rw [Nat.testBit_lt_two_pow (Nat.lt_of_lt_of_le hlt (Nat.pow_le_pow_right (by decide) (by omega))), Nat.testBit_lt_two_pow (Nat.lt_of_lt_of_le hc (Nat.pow_le_pow_right (by decide) (by omega)))]
/-! the class's codes -/
theorem f_dark {n v : Nat} (hn : n ≤ 6) (hv : v < n) {post : Int32 → Prop} (K : post (nI (2 ^ (LN n - 1 - LN v)))) : F_X0_dark (nI n) (nI v) post := by
  unfold F_X0_dark
  have hL6 := LN_mono hn
  have h6 : LN 6 = 21 := rfl
  have := LN_mono (show v + 1 ≤ n by omega)
  have := LN_succ v
  refine f_bits (by omega) (f_bits (by omega) ?_)
  have e : nI (LN n) - 1 - nI (LN v) = nI (LN n - 1 - LN v) := by
    show nI (LN n) - nI 1 - nI (LN v) = _
    rw [ni_sub (by omega), ni_sub (by omega)]
  rw [e, ni_1shl (by omega)]
  exact K
theorem f_edge {n a b : Nat} (hn : n ≤ 6) (ha : a < n) (hb : b < n) (hab : a ≠ b) {post : Int32 → Prop} (K : post (nI (2 ^ (LN n - 2 - LN (max a b) - min a b)))) : F_X0_edge (nI n) (nI a) (nI b) post := by
  unfold F_X0_edge
  have hL6 := LN_mono hn
  have h6 : LN 6 = 21 := rfl
  have := LN_mono (show max a b + 1 ≤ n by omega)
  have := LN_succ (max a b)
  rw [nI_max (by omega) (by omega), nI_min (by omega) (by omega)]
  refine f_bits (by omega) (f_bits (by omega) ?_)
  have e : nI (LN n) - 2 - nI (LN (max a b)) - nI (min a b) = nI (LN n - 2 - LN (max a b) - min a b) := by
    show nI (LN n) - nI 2 - nI (LN (max a b)) - nI (min a b) = _
    rw [ni_sub (by omega), ni_sub (by omega), ni_sub (by omega)]
  rw [e, ni_1shl (by omega)]
  exact K
theorem and_pow0 {c k : Nat} (hc : c < 2 ^ 31) : (nI c &&& nI (2 ^ k)) = 0 ↔ c.testBit k = false := by
  rw [ni_and]
  have e : c &&& 2 ^ k = (c.testBit k).toNat * 2 ^ k := by
    apply Nat.eq_of_testBit_eq
    intro i
    rw [Nat.testBit_and, Nat.testBit_two_pow, tb_bool]
    by_cases h : k = i
    · subst h; simp
    · have : ¬ i = k := fun g => h g.symm
      simp [h, this]
  constructor
  · intro h
    have : c &&& 2 ^ k = 0 := ni_inj (b := 0) (Nat.lt_of_le_of_lt Nat.and_le_left hc) (by decide) h
    rw [e] at this
    cases h2 : c.testBit k with
    | false => rfl
    | true =>
      rw [h2] at this
      have p : 0 < 2 ^ k := Nat.pow_pos (by decide)
      simp at this
  · intro h
    rw [e, h]; simp; rfl
theorem f_areJoined {n c a b : Nat} (hn : n ≤ 6) (hc : c < 2 ^ 31) (ha : a < n) (hb : b < n) {post : Int32 → Prop} (K : post (nI (egb n c a b).toNat)) : F_X0_areJoined (nI n) (nI c) (nI a) (nI b) post := by
  unfold F_X0_areJoined F_X0_areJoined_20 F_X0_areJoined_21
  unfold egb at K
  refine ⟨fun g => ⟨by decide, ?_⟩, fun g => ?_⟩
  · have g : a = b := ni_inj (by omega) (by omega) g
    subst g
    simp at K
    exact K
  · have g : a ≠ b := fun e => g (by rw [e])
    refine f_edge hn ha hb g ?_
    rw [decide_eq_true g, Bool.true_and] at K
    refine ⟨fun h => ⟨by decide, ?_⟩, fun h => ⟨by decide, ?_⟩⟩
    · rw [and_pow0 hc] at h
      rw [h] at K; exact K
    · have : c.testBit (LN n - 2 - LN (max a b) - min a b) = true := by
        cases e : c.testBit (LN n - 2 - LN (max a b) - min a b) with
        | true => rfl
        | false => exact absurd ((and_pow0 hc).mpr e) h
      rw [this] at K; exact K
def acM (n : Nat) : Nat → Nat
  | 0 => 0
  | v + 1 => acM n v ||| 2 ^ (LN n - 1 - LN v)
def aeM (n : Nat) : Nat := (2 ^ LN n - 1) ^^^ acM n n
theorem f_allColours {n : Nat} (hn : n ≤ 6) {post : Int32 → Prop} (K : post (nI (acM n n))) : F_X0_allColours (nI n) post := by
  unfold F_X0_allColours
  refine ⟨n + 1, ?_⟩
  have main : ∀ j k, k + j = n → F_X0_allColours_4 post (j + 1) (nI n) (nI (acM n k)) (nI k) := by
    intro j
    induction j with
    | zero =>
      intro k hk
      have : k = n := by omega
      subst this
      unfold F_X0_allColours_4
      exact br1 (Int32.le_refl _) K
    | succ j ih =>
      intro k hk
      unfold F_X0_allColours_4
      refine br2 (nI_ge (by omega) (by omega)) (f_dark hn (by omega) ?_)
      rw [ni_or, nI_1]
      exact ih (k + 1) (by omega)
  exact main n 0 (by omega)
theorem f_allEdges {n : Nat} (hn : n ≤ 6) {post : Int32 → Prop} (K : post (nI (aeM n))) : F_X0_allEdges (nI n) post := by
  unfold F_X0_allEdges
  have hL6 := LN_mono hn
  have h6 : LN 6 = 21 := rfl
  refine f_bits (by omega) (f_allColours hn ?_)
  rw [ni_1shl (by omega)]
  have e : nI (2 ^ LN n) - 1 = nI (2 ^ LN n - 1) := by
    show _ - nI 1 = _
    rw [ni_sub (Nat.pow_pos (by decide))]
  rw [e, ni_xor]
  exact K
theorem f_edges {n c : Nat} (hn : n ≤ 6) (hc : c < 2 ^ 24) {post : Int32 → Prop} (K : post (nI (popc (c &&& aeM n) 24))) : F_X0_edges (nI n) (nI c) post := by
  unfold F_X0_edges
  refine f_allEdges hn ?_
  rw [ni_and]
  exact f_bitCount (Nat.lt_of_le_of_lt Nat.and_le_left hc) K
theorem f_darkNodes {n c : Nat} (hn : n ≤ 6) (hc : c < 2 ^ 24) {post : Int32 → Prop} (K : post (nI (popc (c &&& acM n n) 24))) : F_X0_darkNodes (nI n) (nI c) post := by
  unfold F_X0_darkNodes
  refine f_allColours hn ?_
  rw [ni_and]
  exact f_bitCount (Nat.lt_of_le_of_lt Nat.and_le_left hc) K
/-! the nodes of a set, and the net that they make -/
def nds (s : Nat) (k : Nat) : List Nat := (List.range k).filter (fun v => s.testBit v)
theorem nds_succ (s k : Nat) : nds s (k + 1) = if s.testBit k then nds s k ++ [k] else nds s k := by
  unfold nds
  rw [List.range_succ, List.filter_append]
  by_cases h : s.testBit k = true
  · simp [h]
  · simp [h]
theorem nds_mem {s k x : Nat} (h : x ∈ nds s k) : x < k := by
  unfold nds at h
  rw [List.mem_filter] at h
  exact List.mem_range.mp h.1
theorem nds_len (s : Nat) : ∀ k, (nds s k).length = popc s k
  | 0 => rfl
  | k + 1 => by
    rw [nds_succ, popc, ← nds_len s k]
    split <;> rename_i h
    · rw [h]; simp
    · have : s.testBit k = false := by simpa using h
      rw [this]; simp
theorem nI_dbl (a : Nat) (b : Bool) : (nI a <<< ((1 : Int32) &&& 31)) ||| nI b.toNat = nI (2 * a + b.toNat) := by
  have : nI a <<< ((1 : Int32) &&& 31) = nI (2 * a) := by
    show nI a <<< (nI 1 &&& 31) = _
    rw [ni_shl a (by decide), Nat.mul_comm]
  rw [this, ni_or, or_bit]
