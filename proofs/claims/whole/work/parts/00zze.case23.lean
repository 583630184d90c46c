/-! what two nets have in common -/
theorem lv_inv {n : Nat} : ∀ (k : Nat) (p : List Nat) (u : Nat) (t : List Nat), t ∈ lv n k p u → ∃ r, t = p ++ r ∧ r.length = k ∧ r.Nodup ∧ ∀ x ∈ r, x < n ∧ u.testBit x = false
  | 0, p, u, t, h => by
    simp [lv] at h
    exact ⟨[], by simp [h], rfl, List.nodup_nil, fun x hx => absurd hx (by simp)⟩
  | k + 1, p, u, t, h => by
    simp only [lv, List.mem_flatMap] at h
    obtain ⟨v, hv, h⟩ := h
    have hv := List.mem_range.mp hv
    cases e : u.testBit v with
    | true => rw [e] at h; simp at h
    | false =>
      rw [e, if_neg (by decide)] at h
      obtain ⟨r, h1, h2, h3, h4⟩ := lv_inv k _ _ t h
      refine ⟨v :: r, by rw [h1, List.append_assoc]; rfl, by rw [List.length_cons, h2], List.nodup_cons.mpr ⟨fun hm => ?_, h3⟩, fun x hx => ?_⟩
      · have := (h4 v hm).2
        rw [tb_or_pow, decide_eq_true rfl, Bool.or_true] at this
        exact absurd this (by decide)
      · rcases List.mem_cons.mp hx with rfl | hx
        · exact ⟨hv, e⟩
        · have g := h4 x hx
          rw [tb_or_pow, Bool.or_eq_false_iff] at g
          exact ⟨g.1, g.2.1⟩
theorem len_sub : ∀ {l1 l2 : List Nat}, l1.Nodup → (∀ x ∈ l1, x ∈ l2) → l1.length ≤ l2.length
  | [], _, _, _ => Nat.zero_le _
  | x :: l1, l2, h, hs => by
    have hx := hs x (by simp)
    obtain ⟨n1, n2⟩ := List.nodup_cons.mp h
    have := len_sub (l1 := l1) (l2 := l2.erase x) n2 (fun y hy => (List.mem_erase_of_ne (fun e => n1 (by rw [← e]; exact hy))).mpr (hs y (by simp [hy])))
    rw [List.length_erase_of_mem hx] at this
    have hp : 0 < l2.length := List.length_pos_iff.mpr (List.ne_nil_of_mem hx)
    rw [List.length_cons]
    omega
theorem at_idx {L : List Nat} {x : Nat} (hm : x ∈ L) : L.idxOf x < L.length ∧ L.getD (L.idxOf x) 0 = x := by
  have h1 : L.idxOf x < L.length := List.idxOf_lt_length_of_mem hm
  refine ⟨h1, ?_⟩
  rw [List.getD_eq_getElem?_getD, List.getElem?_eq_getElem h1]
  exact List.getElem_idxOf h1
theorem nds_nodup (s n : Nat) : (nds s n).Nodup := List.Pairwise.filter _ List.nodup_range
theorem mem_nds {s n x : Nat} : x ∈ nds s n ↔ x < n ∧ s.testBit x = true := by
  unfold nds
  rw [List.mem_filter, List.mem_range]
theorem lex_nd {k : Nat} {l : List Nat} (h : l ∈ lex k) : l.Nodup := by
  obtain ⟨r, h1, _, h3, _⟩ := lv_inv k [] 0 l h
  rw [h1]
  exact h3
def Cm (n m D E : Nat) (A C : Nat → Nat) (k : Nat) : Prop := ∃ s t, s < 2 ^ n ∧ (nds s n).length = k ∧ t ∈ lv m k [] 0 ∧ cod D A (nds s n) = cod E C t
theorem cm_sets {n m D E k : Nat} {A C : Nat → Nat} (hA : GB n A) (hC : GB m C) (hk : k ≤ 6) : Cm n m D E A C k ↔ ∃ s o, s < 2 ^ n ∧ o < 2 ^ m ∧ (nds s n).length = k ∧ (nds o m).length = k ∧ frm k (dkM k (cod E C (nds o m))) (byM k (cod E C (nds o m))) = frm k (dkM k (cod D A (nds s n))) (byM k (cod D A (nds s n))) := by
  constructor
  · rintro ⟨s, t, h1, h2, h3, h4⟩
    obtain ⟨r, e1, e2, e3, e4⟩ := lv_inv k [] 0 t h3
    have e1 : t = r := e1
    subst e1
    have hmem : ∀ x, x ∈ nds (maskOf (fun v => t.contains v) m) m ↔ x ∈ t := by
      intro x
      rw [mem_nds, mask_tb]
      constructor
      · rintro ⟨a, b⟩
        simpa [a] using b
      · intro hx
        have := (e4 x hx).1
        exact ⟨this, by simp [this, hx]⟩
    have hlen : (nds (maskOf (fun v => t.contains v) m) m).length = k := by
      have a := len_sub (nds_nodup (maskOf (fun v => t.contains v) m) m) (fun x hx => (hmem x).mp hx)
      have b := len_sub e3 (fun x hx => (hmem x).mpr hx)
      omega
    refine ⟨s, maskOf (fun v => t.contains v) m, h1, mask_lt _ _, h2, hlen, ?_⟩
    refine (frm_iso hk hC hA hlen h2 (fun x hx => nds_mem hx) (fun x hx => nds_mem hx)).mpr ⟨t.map (fun x => (nds (maskOf (fun v => t.contains v) m) m).idxOf x), lex_of (by rw [List.length_map, e2]) (nodup_map e3 (fun x hx y hy e => ?_)) (fun x hx => ?_), ?_⟩
    · have a := (at_idx ((hmem x).mpr hx)).2
      have b := (at_idx ((hmem y).mpr hy)).2
      rw [← a, ← b, e]
    · obtain ⟨y, hy, rfl⟩ := List.mem_map.mp hx
      have := (at_idx ((hmem y).mpr hy)).1
      omega
    · rw [List.map_map]
      have : t.map ((fun i => (nds (maskOf (fun v => t.contains v) m) m).getD i 0) ∘ fun x => (nds (maskOf (fun v => t.contains v) m) m).idxOf x) = t := by
        exact (List.map_congr_left (g := fun x => x) (fun x hx => (at_idx ((hmem x).mpr hx)).2)).trans (List.map_id' t)
      rw [this, h4]
  · rintro ⟨s, o, h1, h2, h3, h4, h5⟩
    obtain ⟨l, hl, e⟩ := (frm_iso hk hC hA h4 h3 (fun x hx => nds_mem hx) (fun x hx => nds_mem hx)).mp h5
    refine ⟨s, l.map (fun i => (nds o m).getD i 0), h1, h3, ?_, e.symm⟩
    have hln := lex_mem_len hl
    have hin : ∀ i ∈ l, (nds o m).getD i 0 ∈ nds o m := fun i hi => getD_mem (by have := lex_mem hl i hi; omega)
    have := lv_mem (n := m) (l.map (fun i => (nds o m).getD i 0)) [] 0 (nodup_map (lex_nd hl) (fun x hx y hy e => getD_inj (nds_nodup o m) (by have := lex_mem hl x hx; omega) (by have := lex_mem hl y hy; omega) e)) (fun x hx => by
      obtain ⟨i, hi, rfl⟩ := List.mem_map.mp hx
      exact ⟨nds_mem (hin i hi), Nat.zero_testBit _⟩)
    rw [List.length_map, hln] at this
    exact this
def mxL (P : Nat → Bool) (f : Nat → Nat) (L : List Nat) (b : Nat) : Nat := L.foldl (fun b v => if P v then max b (f v) else b) b
theorem mxL_app (P : Nat → Bool) (f : Nat → Nat) (L M : List Nat) (b : Nat) : mxL P f (L ++ M) b = mxL P f M (mxL P f L b) := by unfold mxL; rw [List.foldl_append]
theorem mxL_ge (P : Nat → Bool) (f : Nat → Nat) : ∀ (L : List Nat) (b : Nat), b ≤ mxL P f L b
  | [], _ => Nat.le_refl _
  | v :: L, b => by
    have := mxL_ge P f L (if P v then max b (f v) else b)
    show b ≤ mxL P f L (if P v then max b (f v) else b)
    split at this
    · rename_i h; rw [if_pos h]; omega
    · rename_i h; rw [if_neg h]; exact this
theorem mxL_mem (P : Nat → Bool) (f : Nat → Nat) : ∀ (L : List Nat) (b v : Nat), v ∈ L → P v = true → f v ≤ mxL P f L b
  | x :: L, b, v, h, hp => by
    show f v ≤ mxL P f L (if P x then max b (f x) else b)
    rcases List.mem_cons.mp h with rfl | h
    · rw [if_pos hp]
      have := mxL_ge P f L (max b (f v))
      omega
    · exact mxL_mem P f L _ v h hp
theorem mxL_max (P : Nat → Bool) (f : Nat → Nat) : ∀ (L : List Nat) (b c : Nat), mxL P f L (max c b) = max c (mxL P f L b)
  | [], _, _ => rfl
  | v :: L, b, c => by
    show mxL P f L (if P v then max (max c b) (f v) else max c b) = max c (mxL P f L (if P v then max b (f v) else b))
    by_cases h : P v = true
    · rw [if_pos h, if_pos h, Nat.max_assoc, mxL_max P f L _ c]
    · rw [if_neg h, if_neg h, mxL_max P f L b c]
theorem mxL_at (P : Nat → Bool) (f : Nat → Nat) : ∀ (L : List Nat) (b : Nat), mxL P f L b = b ∨ ∃ v ∈ L, P v = true ∧ f v = mxL P f L b
  | [], _ => Or.inl rfl
  | v :: L, b => by
    show mxL P f L (if P v then max b (f v) else b) = b ∨ ∃ w ∈ v :: L, P w = true ∧ f w = mxL P f L (if P v then max b (f v) else b)
    rcases mxL_at P f L (if P v then max b (f v) else b) with h | ⟨w, hw, h1, h2⟩
    · rw [h]
      by_cases hp : P v = true
      · rw [if_pos hp]
        by_cases c : f v ≤ b
        · exact Or.inl (by omega)
        · exact Or.inr ⟨v, by simp, hp, by omega⟩
      · rw [if_neg hp]
        exact Or.inl rfl
    · exact Or.inr ⟨w, by simp [hw], h1, h2⟩
theorem mxL_le (P : Nat → Bool) (f : Nat → Nat) (c : Nat) : ∀ (L : List Nat) (b : Nat), b ≤ c → (∀ v ∈ L, P v = true → f v ≤ c) → mxL P f L b ≤ c
  | [], _, h, _ => h
  | v :: L, b, h, hf => by
    show mxL P f L (if P v then max b (f v) else b) ≤ c
    refine mxL_le P f c L _ ?_ (fun w hw hp => hf w (by simp [hw]) hp)
    split
    · rename_i g
      have := hf v (by simp) g
      omega
    · exact h
def mxP (m D E : Nat) (A C : Nat → Nat) : Nat → Nat → Nat → List Nat → List Nat → Nat
  | 0, _, _, q, _ => q.length
  | r + 1, i, u, q, p => max (mxL (fun v => !u.testBit v && (blk E C v p == blk D A i q)) (fun v => mxP m D E A C r (i + 1) (u ||| 2 ^ v) (q ++ [i]) (p ++ [v])) (List.range m) q.length) (mxP m D E A C r (i + 1) u q p)
theorem mxP_ge (m D E : Nat) (A C : Nat → Nat) : ∀ r i u q p, q.length ≤ mxP m D E A C r i u q p
  | 0, _, _, _, _ => Nat.le_refl _
  | r + 1, i, u, q, p => by
    rw [mxP]
    exact Nat.le_trans (mxL_ge _ _ _ _) (Nat.le_max_left _ _)
theorem mxP_hi (m D E : Nat) (A C : Nat → Nat) : ∀ r i u q p, mxP m D E A C r i u q p ≤ q.length + r ∧ mxP m D E A C r i u q p ≤ q.length + unc u m
  | 0, _, _, q, _ => ⟨Nat.le_refl _, Nat.le_add_right _ _⟩
  | r + 1, i, u, q, p => by
    obtain ⟨a1, a2⟩ := mxP_hi m D E A C r (i + 1) u q p
    have ih := fun v => mxP_hi m D E A C r (i + 1) (u ||| 2 ^ v) (q ++ [i]) (p ++ [v])
    rw [mxP]
    constructor
    · refine Nat.max_le.mpr ⟨mxL_le _ _ _ _ _ (by omega) (fun v _ _ => ?_), by omega⟩
      have := (ih v).1
      rw [List.length_append, List.length_cons, List.length_nil] at this
      omega
    · refine Nat.max_le.mpr ⟨mxL_le _ _ _ _ _ (by omega) (fun v hv hp => ?_), a2⟩
      have h := (ih v).2
      rw [List.length_append, List.length_cons, List.length_nil] at h
      have hv := List.mem_range.mp hv
      rw [Bool.and_eq_true] at hp
      have hu : u.testBit v = false := by
        cases e : u.testBit v with
        | false => rfl
        | true => rw [e] at hp; exact absurd hp.1 (by decide)
      have g := unc_or (u := u) (w := v) m hu
      rw [if_pos hv] at g
      omega
theorem nds_or {s i : Nat} : nds (s ||| 2 ^ i) (i + 1) = nds s i ++ [i] := by
  rw [nds_succ, tb_or_pow, decide_eq_true rfl, Bool.or_true, if_pos rfl]
  congr 1
  unfold nds
  refine List.filter_congr (fun x hx => ?_)
  have := List.mem_range.mp hx
  rw [tb_or_pow, decide_eq_false (by omega), Bool.or_false]
theorem mxP_att {n m D E : Nat} {A C : Nat → Nat} : ∀ r i u q p s, i + r = n → s < 2 ^ i → nds s i = q → p.length = q.length → cod D A q = cod E C p → ∃ s' t, s' < 2 ^ n ∧ (nds s' n).length = mxP m D E A C r i u q p ∧ t ∈ lv m (mxP m D E A C r i u q p - p.length) p u ∧ cod D A (nds s' n) = cod E C t
  | 0, i, u, q, p, s, hi, hs, hq, hl, hc => by
    have : i = n := by omega
    subst this
    refine ⟨s, p, hs, by rw [hq]; rfl, ?_, by rw [hq]; exact hc⟩
    show p ∈ lv m (q.length - p.length) p u
    rw [hl, Nat.sub_self]
    simp [lv]
  | r + 1, i, u, q, p, s, hi, hs, hq, hl, hc => by
    have skip : ∃ s' t, s' < 2 ^ n ∧ (nds s' n).length = mxP m D E A C r (i + 1) u q p ∧ t ∈ lv m (mxP m D E A C r (i + 1) u q p - p.length) p u ∧ cod D A (nds s' n) = cod E C t := by
      refine mxP_att r (i + 1) u q p s (by omega) (Nat.lt_of_lt_of_le hs (Nat.pow_le_pow_right (by decide) (by omega))) ?_ hl hc
      rw [nds_succ, tb_ge hs (Nat.le_refl _), if_neg (by decide)]
      exact hq
    have hge := mxP_ge m D E A C r (i + 1) u q p
    rw [mxP]
    rcases mxL_at (fun v => !u.testBit v && (blk E C v p == blk D A i q)) (fun v => mxP m D E A C r (i + 1) (u ||| 2 ^ v) (q ++ [i]) (p ++ [v])) (List.range m) q.length with h | ⟨v, hv, hp, h⟩
    · rw [h, Nat.max_eq_right hge]
      exact skip
    · by_cases c : mxL (fun v => !u.testBit v && (blk E C v p == blk D A i q)) (fun v => mxP m D E A C r (i + 1) (u ||| 2 ^ v) (q ++ [i]) (p ++ [v])) (List.range m) q.length ≤ mxP m D E A C r (i + 1) u q p
      · rw [Nat.max_eq_right c]
        exact skip
      · rw [Nat.max_eq_left (by omega), ← h]
        have hv := List.mem_range.mp hv
        simp only [Bool.and_eq_true, beq_iff_eq] at hp
        have hu : u.testBit v = false := by
          cases e : u.testBit v with
          | false => rfl
          | true => rw [e] at hp; exact absurd hp.1 (by decide)
        have hg := mxP_ge m D E A C r (i + 1) (u ||| 2 ^ v) (q ++ [i]) (p ++ [v])
        rw [List.length_append, List.length_cons, List.length_nil] at hg
        obtain ⟨s', t, g1, g2, g3, g4⟩ := mxP_att (n := n) (m := m) (D := D) (E := E) (A := A) (C := C) r (i + 1) (u ||| 2 ^ v) (q ++ [i]) (p ++ [v]) (s ||| 2 ^ i) (by omega) (Nat.or_lt_two_pow (Nat.lt_trans hs (Nat.pow_lt_pow_right (by decide) (by omega))) (Nat.pow_lt_pow_right (by decide) (by omega))) (by rw [nds_or, hq]) (by rw [List.length_append, List.length_append, hl]; rfl) (by rw [cod_snoc, cod_snoc, hc, hl, hp.2])
        refine ⟨s', t, g1, g2, ?_, g4⟩
        rw [List.length_append, List.length_cons, List.length_nil] at g3
        show t ∈ lv m (mxP m D E A C r (i + 1) (u ||| 2 ^ v) (q ++ [i]) (p ++ [v]) - p.length) p u
        rw [show mxP m D E A C r (i + 1) (u ||| 2 ^ v) (q ++ [i]) (p ++ [v]) - p.length = (mxP m D E A C r (i + 1) (u ||| 2 ^ v) (q ++ [i]) (p ++ [v]) - (p.length + (0 + 1))) + 1 by omega, lv, List.mem_flatMap]
        exact ⟨v, List.mem_range.mpr hv, by rw [hu, if_neg (by decide)]; exact g3⟩
theorem nds_pre (s i : Nat) : ∀ d, ∃ R, nds s (i + d) = nds s i ++ R
  | 0 => ⟨[], by simp⟩
  | d + 1 => by
    obtain ⟨R, h⟩ := nds_pre s i d
    rw [← Nat.add_assoc, nds_succ]
    split
    · exact ⟨R ++ [i + d], by rw [h, List.append_assoc]⟩
    · exact ⟨R, h⟩
theorem mxP_top {n m D E k s : Nat} {A C : Nat → Nat} {t : List Nat} (hk : (nds s n).length = k) (hc : cod D A (nds s n) = cod E C t) : ∀ r i u q p, i + r = n → nds s i = q → p.length = q.length → q.length ≤ k → t ∈ lv m (k - q.length) p u → k ≤ mxP m D E A C r i u q p
  | 0, i, u, q, p, hi, hq, hl, hqk, ht => by
    have : i = n := by omega
    subst this
    show k ≤ q.length
    rw [← hq, hk]
    exact Nat.le_refl _
  | r + 1, i, u, q, p, hi, hq, hl, hqk, ht => by
    rw [mxP]
    cases e : s.testBit i with
    | false =>
      have h1 : nds s (i + 1) = q := by rw [nds_succ, e, if_neg (by decide)]; exact hq
      exact Nat.le_trans (mxP_top hk hc r (i + 1) u q p (by omega) h1 hl hqk ht) (Nat.le_max_right _ _)
    | true =>
      have h1 : nds s (i + 1) = q ++ [i] := by rw [nds_succ, e, if_pos rfl, hq]
      obtain ⟨R, hR⟩ := nds_pre s (i + 1) r
      rw [show i + 1 + r = n by omega, h1] at hR
      have hk2 : k = q.length + 1 + R.length := by rw [← hk, hR, List.length_append, List.length_append]; rfl
      rw [show k - q.length = (k - (q.length + 1)) + 1 by omega, lv, List.mem_flatMap] at ht
      obtain ⟨v, hv, ht⟩ := ht
      cases hu : u.testBit v with
      | true => rw [hu] at ht; simp at ht
      | false =>
        rw [hu, if_neg (by decide)] at ht
        obtain ⟨R', hR', hRl, _, _⟩ := lv_inv _ _ _ _ ht
        have l1 : (q ++ [i]).length = q.length + 1 := by rw [List.length_append]; rfl
        have l2 : (p ++ [v]).length = q.length + 1 := by rw [List.length_append, hl]; rfl
        have c1 := cod_pre D A R (q ++ [i])
        have c2 := cod_pre E C R' (p ++ [v])
        rw [← hR, l1] at c1
        rw [← hR', l2, hRl, ← hc, show k - (q.length + 1) = R.length by omega, c1, cod_snoc, cod_snoc, hl] at c2
        have b1 := blk_lt D A i q
        have b2 := blk_lt E C v p
        rw [hl] at b2
        have hb : blk E C v p = blk D A i q := by
          have m1 : (cod D A q * 2 ^ (q.length + 1) + blk D A i q) % 2 ^ (q.length + 1) = blk D A i q := by rw [Nat.mul_comm, Nat.mul_add_mod, Nat.mod_eq_of_lt b1]
          have m2 : (cod E C p * 2 ^ (q.length + 1) + blk E C v p) % 2 ^ (q.length + 1) = blk E C v p := by rw [Nat.mul_comm, Nat.mul_add_mod, Nat.mod_eq_of_lt b2]
          rw [← m1, ← m2, c2]
        have hp : (!u.testBit v && (blk E C v p == blk D A i q)) = true := by rw [hu, hb, beq_self_eq_true]; rfl
        have h2 := mxP_top (m := m) (E := E) (C := C) (t := t) hk hc r (i + 1) (u ||| 2 ^ v) (q ++ [i]) (p ++ [v]) (by omega) h1 (by rw [l1, l2]) (by rw [l1]; omega) (by rw [l1]; exact ht)
        have h3 := mxL_mem (fun v => !u.testBit v && (blk E C v p == blk D A i q)) (fun v => mxP m D E A C r (i + 1) (u ||| 2 ^ v) (q ++ [i]) (p ++ [v])) (List.range m) q.length v hv hp
        exact Nat.le_trans (Nat.le_trans h2 h3) (Nat.le_max_left _ _)
/-- the most that both have is found by the class's way -/
theorem mxP_best {n m D E : Nat} {A C : Nat → Nat} : (∀ k, Cm n m D E A C k → k ≤ mxP m D E A C n 0 0 [] []) ∧ Cm n m D E A C (mxP m D E A C n 0 0 [] []) := by
  constructor
  · rintro k ⟨s, t, h1, h2, h3, h4⟩
    exact mxP_top h2 h4 n 0 0 [] [] (by omega) rfl rfl (Nat.zero_le _) h3
  · obtain ⟨s, t, h1, h2, h3, h4⟩ := mxP_att (n := n) (m := m) (D := D) (E := E) (A := A) (C := C) n 0 0 [] [] 0 (by omega) (by decide) rfl rfl rfl
    exact ⟨s, t, h1, h2, h3, h4⟩
def PairOk (n m D E : Nat) (A C : Nat → Nat) (FA : Int32 → (Nat → Int64) → Int32 → (Nat → Int64) → Int32 → Int32 → Int32 → Int32 → Int64 → Int64 → (Int32 → Prop) → Prop) (f1 f2 : Nat → Int64) (k : Nat) : Prop :=
  ∀ (i u b : Nat) (q p : List Nat) (post : Int32 → Prop), i + k = n → q.length ≤ i → p.length = q.length → u < 2 ^ m → q.length + unc u m = m → b ≤ 6 → post (nI (max b (mxP m D E A C k i u q p))) → FA (nI n) f1 (nI m) f2 (nI b) (nI i) (nI u) (nI q.length) (lN (lanes n (fun v => blk D A v q))) (lN (lanes m (fun v => blk E C v p))) post
theorem pair_ok {n m D E : Nat} {A C : Nat → Nat} {f1 f2 : Nat → Int64} (hn : n ≤ 6) (hm : m ≤ 6) (hsA : ∀ v j, v < n → j < n → (A v).testBit j = (A j).testBit v) (hsC : ∀ v j, v < m → j < m → (C v).testBit j = (C j).testBit v) (hf1 : ∀ v, v < n → f1 v = lN (lanes n (fun j => ((A v).testBit j).toNat))) (hf2 : ∀ v, v < m → f2 v = lN (lanes m (fun j => ((C v).testBit j).toNat))) : ∀ k fu, k < fu → PairOk n m D E A C (F_X4_pairNext fu) f1 f2 k := by
  intro k
  induction k with
  | zero =>
    intro fu hfu i u b q p post hi hqi hpq hu hun hb K
    obtain ⟨fu, rfl⟩ : ∃ f, fu = f + 1 := ⟨fu - 1, by omega⟩
    unfold F_X4_pairNext FB_X4_pairNext F_X4_pairNext_51
    intro x8 e8
    rw [ni_sub (by omega), ni_sub (by omega), nI_min (by omega) (by omega)] at e8
    rw [nI_max (by omega) (by omega)]
    have : min (n - i) (m - q.length) = 0 := by omega
    rw [this] at e8
    exact br1 (by rw [e8]; decide) K
  | succ k ih =>
    intro fu hfu i u b q p post hi hqi hpq hu hun hb K
    obtain ⟨fu, rfl⟩ : ∃ f, fu = f + 1 := ⟨fu - 1, by omega⟩
    have hge := mxP_ge m D E A C (k + 1) i u q p
    obtain ⟨hh1, hh2⟩ := mxP_hi m D E A C (k + 1) i u q p
    unfold F_X4_pairNext FB_X4_pairNext F_X4_pairNext_51
    intro x8 e8
    rw [ni_sub (by omega), ni_sub (by omega), nI_min (by omega) (by omega)] at e8
    subst e8
    rw [nI_max (by omega) (by omega)]
    have stop : max b q.length = max b (mxP m D E A C (k + 1) i u q p) → post (nI (max b q.length)) := fun e => by rw [e]; exact K
    by_cases c0 : min (n - i) (m - q.length) = 0
    · exact br1 (by rw [c0]; decide) (stop (by omega))
    · refine br2 (nI_nle (by omega) (by omega)) ?_
      rw [nI_add]
      by_cases c1 : max b q.length < q.length + min (n - i) (m - q.length)
      · have blA : ∀ w, blk D A w q < 64 := fun w => Nat.lt_of_lt_of_le (blk_lt D A w q) (show _ ≤ 2 ^ 6 from Nat.pow_le_pow_right (by decide) (by omega))
        have blC : ∀ w, blk E C w p < 64 := fun w => Nat.lt_of_lt_of_le (blk_lt E C w p) (show _ ≤ 2 ^ 6 from Nat.pow_le_pow_right (by decide) (by omega))
        refine br1 (nI_lt c1 (by omega)) (f_block (by omega) hn blA rfl rfl ⟨m + 1, ?_⟩)
        rw [mxP] at K
        have main : ∀ j v b', v + j = m → b' = mxL (fun v => !u.testBit v && (blk E C v p == blk D A i q)) (fun v => mxP m D E A C k (i + 1) (u ||| 2 ^ v) (q ++ [i]) (p ++ [v])) (List.range v) (max b q.length) → b' ≤ 6 → F_X4_pairNext_63 (F_X4_pairNext fu) (nI n) f1 (nI m) f2 post (j + 1) (nI i) (nI u) (nI q.length) (lN (lanes n (fun v => blk D A v q))) (lN (lanes m (fun v => blk E C v p))) (nI (blk D A i q)) (nI v) (nI b') := by
          intro j
          induction j with
          | zero =>
            intro v b' hv hb' hb6
            have : v = m := by omega
            subst this
            unfold F_X4_pairNext_63
            refine br1 (nI_le (Nat.le_refl _) (by omega)) ?_
            unfold F_X4_leaveOut
            rw [nI_1]
            refine ih fu (by omega) (i + 1) u b' q p _ (by omega) (by omega) hpq hu hun hb6 ?_
            rw [mxL_max] at hb'
            rw [hb', Nat.max_assoc]
            exact K
          | succ j ihj =>
            intro v b' hv hb' hb6
            have hub := ni_b0 (show u < 2 ^ 31 from Nat.lt_of_lt_of_le hu (Nat.pow_le_pow_right (by decide) (by omega))) (show v < 32 by omega)
            have step : ∀ b2, b2 = (if (!u.testBit v && (blk E C v p == blk D A i q)) = true then max b' (mxP m D E A C k (i + 1) (u ||| 2 ^ v) (q ++ [i]) (p ++ [v])) else b') → F_X4_pairNext_63 (F_X4_pairNext fu) (nI n) f1 (nI m) f2 post (j + 1) (nI i) (nI u) (nI q.length) (lN (lanes n (fun v => blk D A v q))) (lN (lanes m (fun v => blk E C v p))) (nI (blk D A i q)) (nI v + 1) (nI b2) := by
              intro b2 h2
              rw [nI_1]
              refine ihj (v + 1) b2 (by omega) ?_ ?_
              · rw [List.range_succ, mxL_app, ← hb', h2]
                rfl
              · rw [h2]
                split
                · rename_i hp
                  have hx := (mxP_hi m D E A C k (i + 1) (u ||| 2 ^ v) (q ++ [i]) (p ++ [v])).1
                  rw [List.length_append, List.length_cons, List.length_nil] at hx
                  omega
                · exact hb6
            unfold F_X4_pairNext_63 F_X4_pairNext_124
            refine br2 (nI_ge (by omega) (by omega)) ⟨fun g => ?_, fun g => ?_⟩
            · have hut : u.testBit v = true := by
                cases e : u.testBit v with
                | true => rfl
                | false => exact absurd (hub.mpr e) g
              refine step b' ?_
              rw [hut, if_neg (by simp)]
            · have huf := hub.mp g
              refine f_block (by omega) hm blC rfl rfl ?_
              by_cases c2 : blk E C v p = blk D A i q
              · have hun2 := unc_or (u := u) (w := v) m huf
                rw [if_pos (by omega)] at hun2
                refine br4 (by rw [c2]) (f_fan (by omega) ?_)
                unfold F_X4_pair
                refine f_fan (by omega) ?_
                have e2 : nI u ||| ((1 : Int32) <<< (nI v &&& 31)) = nI (u ||| 2 ^ v) := by rw [ni_1shl (by omega), ni_or]
                rw [lanes_step hm (by omega) (by omega) hsC (hf2 v (by omega)), lanes_step hn (by omega) (by omega) hsA (hf1 i (by omega)), e2, nI_1, nI_1, show q.length + 1 = (q ++ [i]).length by simp]
                refine ih fu (by omega) (i + 1) (u ||| 2 ^ v) b' (q ++ [i]) (p ++ [v]) _ (by omega) (by simp; omega) (by simp; omega) (Nat.or_lt_two_pow hu (Nat.pow_lt_pow_right (by decide) (by omega))) (by simp; omega) hb6 ?_
                refine step _ ?_
                rw [huf, beq_iff_eq.mpr c2]
                exact (if_pos rfl).symm
              · refine br3 (fun g => c2 (ni_inj (by have := blC v; omega) (by have := blA i; omega) g)) (step b' ?_)
                rw [beq_eq_false_iff_ne.mpr c2, Bool.and_false, if_neg (by decide)]
        exact main m 0 _ (by omega) rfl (by omega)
      · exact br2 (nI_nlt (by omega) (by omega)) (stop (by omega))
theorem f_mostAlike {n m c d : Nat} (hn : n ≤ 6) (hm : m ≤ 6) (hc : c < 2 ^ 21) (hd : d < 2 ^ 21) {be : Int32} {kc : Int64} {kd kn : Int32} {kf : Nat → Int64} {kr : Nat → Int32} {jc : Int64} {jd jn : Int32} {jf : Nat → Int64} {jr : Nat → Int32} {post : Int32 → Int32 → Int64 → Int32 → Int32 → (Nat → Int64) → (Nat → Int32) → Int64 → Int32 → Int32 → (Nat → Int64) → (Nat → Int32) → Prop} (K : ∀ be kc kd kn kf kr jc jd jn jf jr, post (nI (mxP m (dkM n c) (dkM m d) (byM n c) (byM m d) n 0 0 [] [])) be kc kd kn kf kr jc jd jn jf jr) : F_X4_mostAlike be kc kd kn kf kr jc jd jn jf jr (nI n) (nI c) (nI m) (nI d) post := by
  unfold F_X4_mostAlike
  refine f_draw hn hc (fun kc kd kn kf kr hS => f_draw hm hd (fun jc jd jn jf jr hT => ?_))
  have e1 := hS.2.2.1
  have e2 := hT.2.2.1
  have e3 := sk_lanes hT
  have e4 := sk_lanes hS
  subst e1 e2 e3 e4
  refine pair_ok (D := dkM n c) (E := dkM m d) (A := byM n c) (C := byM m d) hn hm (fun v j hv hj => byM_sym n c v j hv hj) (fun v j hv hj => byM_sym m d v j hv hj) (fun v hv => (hS.2.2.2 v hv).2) (fun v hv => (hT.2.2.2 v hv).2) n 10 (by omega) 0 0 0 [] [] _ (by omega) (Nat.le_refl _) rfl (Nat.pow_pos (by decide)) (by rw [unc_0]; simp) (by decide) ?_
  rw [Nat.max_eq_right (Nat.zero_le _)]
  exact K _ _ _ _ _ _ _ _ _ _ _
/-! the reference's way -/
def fOf (n c s k : Nat) : Nat := frm k (dkM k (cod (dkM n c) (byM n c) (nds s n))) (byM k (cod (dkM n c) (byM n c) (nds s n)))
theorem f_formOf {k : KD} (hk : KOk k) {forms many : Nat → Int32} (hU : LvUp k 7 forms many) {dk nn fm la sy : Int32} {by0 fo od : Nat → Int32} {n i s z : Nat} (h1 : 1 ≤ n) (h2 : n ≤ kSz k) (hi : i < (lvl k n).length) (hs : s < 64) (hz : (nds s n).length = z) (hz1 : 1 ≤ z) (hz6 : z ≤ 6) {post : Int32 → Int32 → Int32 → Int32 → Int32 → Int32 → (Nat → Int32) → (Nat → Int32) → (Nat → Int32) → Prop} (K : ∀ d f l nn s2 b o1 o2, post (nI (fOf n ((lvl k n).getD i 0) s z)) d f l nn s2 b o1 o2) : F_X12_formOf forms dk fm la nn sy by0 fo od (nI n) (nI i) (nI s) post := by
  have hsz := size_le hk
  unfold F_X12_formOf
  refine f_takes hk hU h1 h2 hi (fun dark nodes by' hR => ⟨n + 1, ?_⟩)
  have main : ∀ q dk nn by' f l sy fo od, q ≤ n → DropSt n (dkM n ((lvl k n).getD i 0)) (byM n ((lvl k n).getD i 0)) s q dk nn by' → F_X12_formOf_11 forms post (q + 1) (nI s) (nI q - 1) dk f l nn sy by' fo od := by
    intro q
    induction q with
    | zero =>
      intro dk nn by' f l sy fo od hq hD
      obtain ⟨D', B', hR, e⟩ := drop_end (by omega) (gb_byM _ _) hs hz hD
      unfold F_X12_formOf_11
      refine br1 (by decide) (f_formNow hz6 hz1 hR (fun lasts sym first order _ => ?_))
      have hK := K dk (nI (frm z D' B')) lasts nn sym by' first order
      unfold fOf at hK
      rw [← e] at hK
      exact hK
    | succ q ih =>
      intro dk nn by' f l sy fo od hq hD
      unfold F_X12_formOf_11 F_X12_formOf_31
      rw [nI_pred, sub_neg1]
      refine br2 (nI_pos (by omega)) (f_holds (by omega) (by omega) ?_)
      cases e : s.testBit q with
      | true => exact br3 (by decide) (ih _ _ _ _ _ _ _ _ (by omega) (drop_keep hq e hD))
      | false => exact br4 rfl (drop_out (by omega) hq e hD (fun dk nn by' hD => ih _ _ _ _ _ _ _ _ (by omega) hD))
  exact main n dark nodes by' _ _ _ _ _ (Nat.le_refl _) (drop_begin (by omega) hR)
theorem pc_nds {s n : Nat} (hn : n ≤ 6) (hs : s < 2 ^ n) : popc s 24 = (nds s n).length := by
  rw [nds_len]
  have := popc_big (x := s) (k := n) hs (24 - n)
  rw [show n + (24 - n) = 24 by omega] at this
  exact this
theorem f_haveCommon {k : KD} (hk : KOk k) {forms many : Nat → Int32} (hU : LvUp k 7 forms many) {dk nn fm la sy : Int32} {by0 fo od : Nat → Int32} {n i m j z : Nat} (h1 : 1 ≤ n) (h2 : n ≤ kSz k) (hi : i < (lvl k n).length) (m1 : 1 ≤ m) (m2 : m ≤ kSz k) (hj : j < (lvl k m).length) (hz1 : 1 ≤ z) (hz6 : z ≤ 6) {post : Int32 → Int32 → Int32 → Int32 → Int32 → Int32 → (Nat → Int32) → (Nat → Int32) → (Nat → Int32) → Prop} (K1 : (∃ s o, s < 2 ^ n ∧ o < 2 ^ m ∧ (nds s n).length = z ∧ (nds o m).length = z ∧ fOf m ((lvl k m).getD j 0) o z = fOf n ((lvl k n).getD i 0) s z) → ∀ d f l nn s2 b o1 o2, post 1 d f l nn s2 b o1 o2) (K0 : (¬ ∃ s o, s < 2 ^ n ∧ o < 2 ^ m ∧ (nds s n).length = z ∧ (nds o m).length = z ∧ fOf m ((lvl k m).getD j 0) o z = fOf n ((lvl k n).getD i 0) s z) → ∀ d f l nn s2 b o1 o2, post 0 d f l nn s2 b o1 o2) : F_X12_haveCommon forms dk fm la nn sy by0 fo od (nI n) (nI i) (nI m) (nI j) (nI z) post := by
  have hsz := size_le hk
  have hp : 2 ^ n ≤ 64 := show 2 ^ n ≤ 2 ^ 6 from Nat.pow_le_pow_right (by decide) (by omega)
  have hpm : 2 ^ m ≤ 64 := show 2 ^ m ≤ 2 ^ 6 from Nat.pow_le_pow_right (by decide) (by omega)
  unfold F_X12_haveCommon
  refine ⟨2 ^ n + 1, ?_⟩
  have main : ∀ r s dk f l nn sy b o1 o2, s + r = 2 ^ n → (∀ s', s' < s → ∀ o, o < 2 ^ m → (nds s' n).length = z → (nds o m).length = z → fOf m ((lvl k m).getD j 0) o z ≠ fOf n ((lvl k n).getD i 0) s' z) → F_X12_haveCommon_3 forms post (r + 1) (nI n) (nI i) (nI m) (nI j) (nI z) (nI s) dk f l nn sy b o1 o2 := by
    intro r
    induction r with
    | zero =>
      intro s dk f l nn sy b o1 o2 hs inv
      have : s = 2 ^ n := by omega
      subst this
      unfold F_X12_haveCommon_3
      rw [ni_1shl (by omega)]
      refine br1 (nI_le (Nat.le_refl _) (by omega)) ⟨by decide, K0 ?_ _ _ _ _ _ _ _ _⟩
      rintro ⟨s, o, g1, g2, g3, g4, g5⟩
      exact inv s g1 o g2 g3 g4 g5
    | succ r ih =>
      intro s dk f l nn sy b o1 o2 hs inv
      have hpc := pc_nds (show n ≤ 6 by omega) (show s < 2 ^ n by omega)
      have hpl := popc_le s 24
      have next : ∀ dk f l nn sy b o1 o2, (∀ o, o < 2 ^ m → (nds s n).length = z → (nds o m).length = z → fOf m ((lvl k m).getD j 0) o z ≠ fOf n ((lvl k n).getD i 0) s z) → F_X12_haveCommon_3 forms post (r + 1) (nI n) (nI i) (nI m) (nI j) (nI z) (nI s + 1) dk f l nn sy b o1 o2 := by
        intro dk f l nn sy b o1 o2 h
        rw [nI_1]
        refine ih (s + 1) _ _ _ _ _ _ _ _ (by omega) (fun s' hs' => ?_)
        by_cases c : s' = s
        · subst c; exact h
        · exact inv s' (by omega)
      unfold F_X12_haveCommon_3 F_X12_haveCommon_77
      rw [ni_1shl (by omega)]
      refine br2 (nI_ge (by omega) (by omega)) (f_bits12 (by omega) ?_)
      by_cases e : popc s 24 = z
      · refine br1 (by rw [e]) (f_formOf hk hU h1 h2 hi (by omega) (hpc.symm.trans e) hz1 hz6 (fun dk f l nn sy b o1 o2 => ⟨2 ^ m + 1, ?_⟩))
        have inner : ∀ r2 o dk f l nn sy b o1 o2, o + r2 = 2 ^ m → (∀ o', o' < o → (nds o' m).length = z → fOf m ((lvl k m).getD j 0) o' z ≠ fOf n ((lvl k n).getD i 0) s z) → F_X12_haveCommon_37 forms post (fun x1 x2 x3 x4 x5 x6 t_dark t_form t_lasts t_nodes t_symmetries t_by t_firstOrder t_order => F_X12_haveCommon_3 forms post (r + 1) x1 x2 x3 x4 x5 (x6 + 1) t_dark t_form t_lasts t_nodes t_symmetries t_by t_firstOrder t_order) (r2 + 1) (nI n) (nI i) (nI m) (nI j) (nI z) (nI s) (nI (fOf n ((lvl k n).getD i 0) s z)) (nI o) dk f l nn sy b o1 o2 := by
          intro r2
          induction r2 with
          | zero =>
            intro o dk f l nn sy b o1 o2 ho inv2
            have : o = 2 ^ m := by omega
            subst this
            unfold F_X12_haveCommon_37
            rw [ni_1shl (by omega)]
            exact br1 (nI_le (Nat.le_refl _) (by omega)) (next _ _ _ _ _ _ _ _ (fun o ho _ hz => inv2 o ho hz))
          | succ r2 ih2 =>
            intro o dk f l nn sy b o1 o2 ho inv2
            have hpc2 := pc_nds (show m ≤ 6 by omega) (show o < 2 ^ m by omega)
            have hpl2 := popc_le o 24
            unfold F_X12_haveCommon_37 F_X12_haveCommon_71
            rw [ni_1shl (by omega)]
            refine br2 (nI_ge (by omega) (by omega)) (f_bits12 (by omega) ?_)
            rw [nI_1]
            by_cases e2 : popc o 24 = z
            · refine br4 (by rw [e2]) (f_formOf hk hU m1 m2 hj (by omega) (hpc2.symm.trans e2) hz1 hz6 (fun dk f l nn sy b o1 o2 => ?_))
              by_cases e3 : fOf m ((lvl k m).getD j 0) o z = fOf n ((lvl k n).getD i 0) s z
              · exact br4 (by rw [e3]) (K1 ⟨s, o, by omega, by omega, hpc.symm.trans e, hpc2.symm.trans e2, e3⟩ _ _ _ _ _ _ _ _)
              · refine br3 (fun g => e3 (ni_inj (frm31 hz6) (frm31 hz6) g)) (ih2 (o + 1) _ _ _ _ _ _ _ _ (by omega) (fun o' ho' hz' => ?_))
                by_cases c : o' = o
                · subst c; exact e3
                · exact inv2 o' (by omega) hz'
            · refine br3 (fun g => e2 (ni_inj (by omega) (by omega) g)) (ih2 (o + 1) _ _ _ _ _ _ _ _ (by omega) (fun o' ho' hz' => ?_))
              by_cases c : o' = o
              · subst c; exact absurd (hpc2.trans hz') e2
              · exact inv2 o' (by omega) hz'
        exact inner (2 ^ m) 0 _ _ _ _ _ _ _ _ (by omega) (fun o' ho' => absurd ho' (Nat.not_lt_zero _))
      · exact br2 (fun g => e (ni_inj (by omega) (by omega) g)) (next _ _ _ _ _ _ _ _ (fun o _ hz _ => absurd (hpc.trans hz) e))
  exact main (2 ^ n) 0 _ _ _ _ _ _ _ _ (by omega) (fun s' hs' => absurd hs' (Nat.not_lt_zero _))
theorem f_common28 {k : KD} (hk : KOk k) {w forms many : Nat → Int32} (hU : LvUp k 7 forms many) {n i m j M : Nat} (h1 : 1 ≤ n) (h2 : n ≤ kSz k) (hi : i < (lvl k n).length) (m1 : 1 ≤ m) (m2 : m ≤ kSz k) (hj : j < (lvl k m).length) (hM : M = mxP m (dkM n ((lvl k n).getD i 0)) (dkM m ((lvl k m).getD j 0)) (byM n ((lvl k n).getD i 0)) (byM m ((lvl k m).getD j 0)) n 0 0 [] []) {th : Int32} {post : Int32 → Int32 → Int32 → Int32 → Int32 → Int32 → Int32 → (Nat → Int32) → (Nat → Int32) → (Nat → Int32) → Prop} (K : ∀ d f l nn s b o1 o2, post (nI M) d f l nn s th b o1 o2) : ∀ z d f l nn s b o1 o2, z ≤ 6 → M ≤ z → F_X12_common_28 forms many w post (z + 1) (nI n) (nI i) (nI m) (nI j) (nI z) d f l nn s th b o1 o2 := by
  have hsz := size_le hk
  obtain ⟨b1, b2⟩ := mxP_best (n := n) (m := m) (D := dkM n ((lvl k n).getD i 0)) (E := dkM m ((lvl k m).getD j 0)) (A := byM n ((lvl k n).getD i 0)) (C := byM m ((lvl k m).getD j 0))
  rw [← hM] at b1 b2
  intro z
  induction z with
  | zero =>
    intro d f l nn s b o1 o2 hz hMz
    have : M = 0 := by omega
    rw [this] at K
    unfold F_X12_common_28 F_X12_common_53
    exact br1 (by decide) (K _ _ _ _ _ _ _ _)
  | succ z ih =>
    intro d f l nn s b o1 o2 hz hMz
    unfold F_X12_common_28 F_X12_common_53
    refine br2 (nI_nle (by omega) (by omega)) (f_haveCommon hk hU h1 h2 hi m1 m2 hj (z := z + 1) (by omega) hz (fun hc d f l nn s b o1 o2 => ?_) (fun hc d f l nn s b o1 o2 => ?_))
    · have : z + 1 ≤ M := b1 _ ((cm_sets (gb_byM _ _) (gb_byM _ _) hz).mpr hc)
      have : M = z + 1 := by omega
      rw [this] at K
      exact br3 (by decide) (K _ _ _ _ _ _ _ _)
    · have : M ≠ z + 1 := fun e => by
        rw [e] at b2
        exact hc ((cm_sets (gb_byM _ _) (gb_byM _ _) hz).mp b2)
      refine br4 rfl ?_
      rw [ni_dec]
      exact ih _ _ _ _ _ _ _ _ (by omega) (by omega)
theorem lc18 (xs : Nat → Int32) (L : Nat) (hL3 : L ≤ 3072) : LC18 xs L IInv := by
  unfold LC18
  intro x4 m_begin m_dark m_end m_faultAt m_form m_hasImage m_heldDark m_lasts m_nodes m_pairs m_point m_symmetries m_taped m_thrown m_toldEdges m_toldForm m_toldNodes m_toldSymmetries m_writtenMany m_by m_decks m_draft m_firstOrder m_five m_forms m_held m_image m_many m_order m_seen m_tape m_toldOrder m_world m_written o x_hasImage x_cycleSums_edges x_cycleSums_hasDark x_cycleSums_parts x_cycleSums_ways x_decks x_draft_bannedCircles x_draft_endLines x_draft_endsJoined x_draft_fewestEdges x_draft_hasDark x_draft_least x_draft_most x_draft_mostEdges x_draft_patterns x_draft_ruleLines x_draft_size x_draft_unlike x_draft_words x_draft_patternCodes x_draft_patternNodes x_forms_allBits x_forms_firstOrder x_forms_isBeaten x_forms_isStudy x_forms_isTest x_forms_least x_forms_nodes x_forms_order x_forms_seen x_forms_stillEdges x_forms_symmetries x_forms_sketch_colours x_forms_sketch_darks x_forms_sketch_nodes x_forms_sketch_fans x_forms_sketch_near x_keptLevels_total x_keptLevels_codes x_keptLevels_firsts x_keptRules_bannedCircles x_keptRules_endLines x_keptRules_endsJoined x_keptRules_fewestEdges x_keptRules_hasDark x_keptRules_least x_keptRules_most x_keptRules_mostEdges x_keptRules_patterns x_keptRules_ruleLines x_keptRules_size x_keptRules_unlike x_keptRules_words x_keptRules_patternCodes x_keptRules_patternNodes x_keptWalkers_allParts x_keptWalkers_depths x_keptWalkers_lists x_keptWalkers_ownParts x_levels_total x_levels_codes x_levels_firsts x_match_best x_match_code x_match_one_colours x_match_one_darks x_match_one_nodes x_match_one_fans x_match_one_near x_match_two_colours x_match_two_darks x_match_two_nodes x_match_two_fans x_match_two_near x_page_length x_page_bytes x_rules_bannedCircles x_rules_endLines x_rules_endsJoined x_rules_fewestEdges x_rules_hasDark x_rules_least x_rules_most x_rules_mostEdges x_rules_patterns x_rules_ruleLines x_rules_size x_rules_unlike x_rules_words x_rules_patternCodes x_rules_patternNodes x_sketch_colours x_sketch_darks x_sketch_nodes x_sketch_fans x_sketch_near x_tape_begun x_tape_length x_tape_position x_tape_wrong x_tape_bytes x_texts_code x_texts_nodes x_toldForms_allBits x_toldForms_firstOrder x_toldForms_isBeaten x_toldForms_isStudy x_toldForms_isTest x_toldForms_least x_toldForms_nodes x_toldForms_order x_toldForms_seen x_toldForms_stillEdges x_toldForms_symmetries x_toldForms_sketch_colours x_toldForms_sketch_darks x_toldForms_sketch_nodes x_toldForms_sketch_fans x_toldForms_sketch_near x_walkers_allParts x_walkers_depths x_walkers_lists x_walkers_ownParts hx0 hxL hI
  obtain ⟨k, hT, hK, hW, hG, hD, hO, hP⟩ := hI
  obtain ⟨hk, hw, ⟨q1, q2, q3, q4, q5, q6, q7, q8, q9, q10, q11, q12, hp⟩, hL, hU⟩ := hK
  subst q1 q2 q3 q4 q5 q6 q7 q8 q9 q10 q11 q12
  have hsz := size_le hk
  have a1 := arg_in hx0 hxL (by omega) (j := 1) (by omega)
  have a2 := arg_in hx0 hxL (by omega) (j := 2) (by omega)
  have a3 := arg_in hx0 hxL (by omega) (j := 3) (by omega)
  have a4 := arg_in hx0 hxL (by omega) (j := 4) (by omega)
  have a5 := arg_in hx0 hxL (by omega) (j := 5) (by omega)
  have o0 := vp_in_nI (n := 0) (N := 1) (by decide) (by decide)
  
  unfold F_law_c18 F_L_common F_law_c18_1574
  refine ⟨a1, a2, a3, a4, ?_⟩
  generalize xs (x4 + 1).toNatClampNeg = p1
  generalize xs (x4 + 2).toNatClampNeg = p2
  generalize xs (x4 + 3).toNatClampNeg = p3
  generalize xs (x4 + 4).toNatClampNeg = p4
  unfold F_X11_common F_X12_common F_X12_common_19 F_X12_thrown
  rcases net_q hk p1 p2 with h | ⟨n, i, h1, h2, rfl, hi, rfl⟩
  · exact x_needNet_n hk hL h ⟨rfl, a1, a2, a3, a4, f_noNet_n hk hw hU h (br3 (by decide) (law_fin rfl (fun e => absurd e (by decide)) ⟨rfl, k, hT, ⟨hk, hw, ⟨rfl, rfl, rfl, rfl, rfl, rfl, rfl, rfl, rfl, rfl, rfl, rfl, hp⟩, hL, hU⟩, hW, hG, hD, hO, hP⟩))⟩
  · refine x_needNet_y hk hL h1 h2 hi ?_
    rcases net_q hk p3 p4 with h | ⟨m, j, m1, m2, rfl, hj, rfl⟩
    · exact x_needNet_n hk hL h ⟨rfl, a1, a2, a3, a4, f_noNet_y hk hw hU h1 h2 hi (br4 rfl (f_noNet_n hk hw hU h (br2 (by decide) (law_fin rfl (fun e => absurd e (by decide)) ⟨rfl, k, hT, ⟨hk, hw, ⟨rfl, rfl, rfl, rfl, rfl, rfl, rfl, rfl, rfl, rfl, rfl, rfl, hp⟩, hL, hU⟩, hW, hG, hD, hO, hP⟩))))⟩
    · have hmx := mxP_hi m (dkM n ((lvl k n).getD i 0)) (dkM m ((lvl k m).getD j 0)) (byM n ((lvl k n).getD i 0)) (byM m ((lvl k m).getD j 0)) n 0 0 [] []
      rw [unc_0, List.length_nil] at hmx
      refine x_needNet_y hk hL m1 m2 hj (f_mostAlike (by omega) (by omega) (lvl_lt31 hk h1 (by omega) hi) (lvl_lt31 hk m1 (by omega) hj) (fun be kc kd kn kf kr jc jd jn jf jr => ⟨o0, a1, a2, a3, a4, f_noNet_y hk hw hU h1 h2 hi (br4 rfl (f_noNet_y hk hw hU m1 m2 hj (br1 rfl ⟨min n m + 1, ?_⟩)))⟩))
      rw [nI_min (by omega) (by omega)]
      refine f_common28 hk hU h1 h2 hi m1 m2 hj rfl (fun d f l nn s b o1 o2 => ?_) (min n m) _ _ _ _ _ _ _ _ (by omega) (by omega)
      exact law_fin rfl (fun _ => updL_in) ⟨rfl, k, hT, ⟨hk, hw, ⟨rfl, rfl, rfl, rfl, rfl, rfl, rfl, rfl, rfl, rfl, rfl, rfl, hp⟩, hL, hU⟩, hW, hG, hD, hO, hP⟩
