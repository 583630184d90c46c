/-! orders of nodes, codes of orders, and the summary of those that were looked at -/
def blk (D : Nat) (B : Nat → Nat) (v : Nat) (p : List Nat) : Nat := p.foldl (fun a u => 2 * a + ((B v).testBit u).toNat) (D.testBit v).toNat
def cdf (D : Nat) (B : Nat → Nat) : List Nat → Nat → List Nat → Nat
  | _, c, [] => c
  | p, c, v :: r => cdf D B (p ++ [v]) (c * 2 ^ (p.length + 1) + blk D B v p) r
def cod (D : Nat) (B : Nat → Nat) (l : List Nat) : Nat := cdf D B [] 0 l
def lv (n : Nat) : Nat → List Nat → Nat → List (List Nat)
  | 0, p, _ => [p]
  | k + 1, p, u => (List.range n).flatMap (fun v => if u.testBit v then [] else lv n k (p ++ [v]) (u ||| 2 ^ v))
def lex (n : Nat) : List (List Nat) := lv n n [] 0
theorem blk_snoc (D : Nat) (B : Nat → Nat) (v : Nat) (p : List Nat) (u : Nat) : blk D B v (p ++ [u]) = 2 * blk D B v p + ((B v).testBit u).toNat := by
  unfold blk; rw [List.foldl_append]; rfl
theorem bool_lt2 (b : Bool) : b.toNat < 2 := by cases b <;> decide
theorem blk_lt (D : Nat) (B : Nat → Nat) (v : Nat) (p : List Nat) : blk D B v p < 2 ^ (p.length + 1) := by
  have h : ∀ (p : List Nat) (a k : Nat), a < 2 ^ k → p.foldl (fun a u => 2 * a + ((B v).testBit u).toNat) a < 2 ^ (p.length + k) := by
    intro p
    induction p with
    | nil => intro a k h; simpa using h
    | cons u p ih =>
      intro a k h
      have h2 := ih (2 * a + ((B v).testBit u).toNat) (k + 1) (by have := bool_lt2 ((B v).testBit u); rw [Nat.pow_succ]; omega)
      have e : p.length + (k + 1) = (u :: p).length + k := by simp; omega
      rw [e] at h2
      exact h2
  exact h p _ 1 (bool_lt2 _)
theorem cdf_snoc (D : Nat) (B : Nat → Nat) (v : Nat) : ∀ (r p : List Nat) (c : Nat), cdf D B p c (r ++ [v]) = cdf D B p c r * 2 ^ (p.length + r.length + 1) + blk D B v (p ++ r)
  | [], p, c => by simp [cdf]
  | u :: r, p, c => by
    show cdf D B (p ++ [u]) _ (r ++ [v]) = cdf D B (p ++ [u]) _ r * _ + _
    rw [cdf_snoc D B v r]
    simp [List.append_assoc]
    congr 2
    omega
theorem cod_snoc (D : Nat) (B : Nat → Nat) (p : List Nat) (v : Nat) : cod D B (p ++ [v]) = cod D B p * 2 ^ (p.length + 1) + blk D B v p := by
  unfold cod; rw [cdf_snoc]; simp
theorem lv_len {n : Nat} : ∀ (k : Nat) (p : List Nat) (u : Nat) (l : List Nat), l ∈ lv n k p u → l.length = p.length + k
  | 0, p, u, l, h => by simp [lv] at h; subst h; rfl
  | k + 1, p, u, l, h => by
    simp only [lv, List.mem_flatMap] at h
    obtain ⟨v, _, h⟩ := h
    split at h
    · simp at h
    · have := lv_len k _ _ l h
      simp at this; omega
theorem cod_lv {n : Nat} (D : Nat) (B : Nat → Nat) : ∀ (k : Nat) (p : List Nat) (u : Nat) (l : List Nat), l ∈ lv n k p u → cod D B l / 2 ^ (LN (p.length + k) - LN p.length) = cod D B p
  | 0, p, u, l, h => by simp [lv] at h; subst h; simp
  | k + 1, p, u, l, h => by
    simp only [lv, List.mem_flatMap] at h
    obtain ⟨v, _, h⟩ := h
    split at h
    · simp at h
    · have ih := cod_lv D B k _ _ l h
      rw [List.length_append] at ih
      simp only [List.length_cons, List.length_nil, Nat.zero_add] at ih
      have e1 : p.length + 1 + k = p.length + (k + 1) := by omega
      rw [e1] at ih
      have m : LN (p.length + 1) ≤ LN (p.length + (k + 1)) := LN_mono (by omega)
      have s := LN_succ p.length
      have e2 : LN (p.length + (k + 1)) - LN p.length = (LN (p.length + (k + 1)) - LN (p.length + 1)) + (p.length + 1) := by omega
      rw [e2, Nat.pow_add, ← Nat.div_div_eq_div_mul, ih, cod_snoc]
      have := blk_lt D B v p
      have pp : 0 < 2 ^ (p.length + 1) := Nat.pow_pos (by decide)
      rw [Nat.mul_comm, Nat.mul_add_div pp, Nat.div_eq_of_lt this]; omega
theorem cod_lt (D : Nat) (B : Nat → Nat) (p : List Nat) : cod D B p < 2 ^ LN p.length := by
  induction hn : p.length generalizing p with
  | zero => have : p = [] := List.length_eq_zero_iff.mp hn
            subst this; simp [cod, cdf, LN]
  | succ m ih =>
    obtain ⟨q, v, rfl⟩ : ∃ q v, p = q ++ [v] := by
      rcases List.eq_nil_or_concat p with rfl | ⟨q, v, rfl⟩
      · simp at hn
      · exact ⟨q, v, by simp⟩
    have hq : q.length = m := by simp at hn; omega
    have h1 := ih q hq
    have h2 := blk_lt D B v q
    have e : 2 ^ (LN m + (m + 1)) = 2 ^ LN m * 2 ^ (m + 1) := Nat.pow_add _ _ _
    rw [cod_snoc, hq, LN_succ, e]
    rw [hq] at h2
    have h3 : (cod D B q + 1) * 2 ^ (m + 1) ≤ 2 ^ LN m * 2 ^ (m + 1) := Nat.mul_le_mul_right _ h1
    rw [Nat.add_mul] at h3
    omega
/-- what is known of all that were looked at: the least value, and those that have it, in their order -/
def IsSm (f : List Nat → Nat) (top : Nat) (Xs : List (List Nat)) (m : Nat) (acc : List (List Nat)) : Prop := (Xs = [] ∧ acc = [] ∧ m = top) ∨ (Xs ≠ [] ∧ acc ≠ [] ∧ acc = Xs.filter (fun x => f x == m) ∧ ∀ x ∈ Xs, m ≤ f x)
theorem sm_nil (f : List Nat → Nat) (top : Nat) : IsSm f top [] top [] := Or.inl ⟨rfl, rfl, rfl⟩
theorem sm_new {f : List Nat → Nat} {top m : Nat} {Xs acc : List (List Nat)} (h : IsSm f top Xs m acc) (l : List Nat) (hl : f l < m ∨ acc = []) : IsSm f top (Xs ++ [l]) (f l) [l] := by
  refine Or.inr ⟨by simp, by simp, ?_, ?_⟩
  · rcases h with ⟨rfl, _, _⟩ | ⟨_, ha, _, h⟩
    · simp
    · have hl : f l < m := by rcases hl with hl | hl; exact hl; exact absurd hl ha
      rw [List.filter_append]
      have : Xs.filter (fun x => f x == f l) = [] := by
        rw [List.filter_eq_nil_iff]
        intro x hx
        have := h x hx
        simp; omega
      rw [this]; simp
  · intro x hx
    rcases List.mem_append.mp hx with hx | hx
    · rcases h with ⟨rfl, _, _⟩ | ⟨_, ha, _, h⟩
      · simp at hx
      · have hl : f l < m := by rcases hl with hl | hl; exact hl; exact absurd hl ha
        have := h x hx; omega
    · simp at hx; subst hx; exact Nat.le_refl _
theorem sm_more {f : List Nat → Nat} {top m : Nat} {Xs acc : List (List Nat)} (h : IsSm f top Xs m acc) (l : List Nat) (hl : f l = m) (ha : acc ≠ []) : IsSm f top (Xs ++ [l]) m (acc ++ [l]) := by
  rcases h with ⟨_, h, _⟩ | ⟨_, _, h1, h2⟩
  · exact absurd h ha
  · refine Or.inr ⟨by simp, by simp, ?_, ?_⟩
    · rw [List.filter_append, ← h1]; simp [hl]
    · intro x hx
      rcases List.mem_append.mp hx with hx | hx
      · exact h2 x hx
      · simp at hx; subst hx; omega
theorem sm_skip {f : List Nat → Nat} {top m : Nat} {Xs acc : List (List Nat)} (h : IsSm f top Xs m acc) (ha : acc ≠ []) (Ys : List (List Nat)) (hy : ∀ y ∈ Ys, m < f y) : IsSm f top (Xs ++ Ys) m acc := by
  rcases h with ⟨_, h, _⟩ | ⟨h0, _, h1, h2⟩
  · exact absurd h ha
  · refine Or.inr ⟨by simp [h0], ha, ?_, ?_⟩
    · rw [List.filter_append, ← h1]
      have : Ys.filter (fun x => f x == m) = [] := by
        rw [List.filter_eq_nil_iff]
        intro x hx
        have := hy x hx
        simp; omega
      rw [this]; simp
    · intro x hx
      rcases List.mem_append.mp hx with hx | hx
      · exact h2 x hx
      · have := hy x hx; omega
theorem sm_drop {f : List Nat → Nat} {top m : Nat} {Xs Ys Zs acc : List (List Nat)} (h : IsSm f top (Xs ++ Zs) m acc) (q : List Nat → Bool) (hz : Zs = Ys.filter q) (hq : ∀ y ∈ Ys, q y = false → ∃ z ∈ Zs, f z < f y) : IsSm f top (Xs ++ Ys) m acc := by
  subst hz
  rcases h with ⟨h0, h1, h2⟩ | ⟨h0, h3, h1, h2⟩
  · have hx : Xs = [] := (List.append_eq_nil_iff.mp h0).1
    have hy : Ys.filter q = [] := (List.append_eq_nil_iff.mp h0).2
    have : Ys = [] := by
      rcases Ys with _ | ⟨y, Ys⟩
      · rfl
      · have := hq y (by simp) (by rw [List.filter_eq_nil_iff] at hy; simpa using hy y (by simp))
        rw [hy] at this
        simp at this
    exact Or.inl ⟨by rw [hx, this]; rfl, h1, h2⟩
  · have hy : ∀ y ∈ Ys, m ≤ f y ∧ (q y = false → m < f y) := by
      intro y hy
      cases e : q y with
      | true => exact ⟨h2 y (List.mem_append_right _ (List.mem_filter.mpr ⟨hy, e⟩)), fun h => absurd h (by simp)⟩
      | false =>
        obtain ⟨z, hz, hl⟩ := hq y hy e
        have := h2 z (List.mem_append_right _ hz)
        exact ⟨by omega, fun _ => by omega⟩
    refine Or.inr ⟨?_, h3, ?_, ?_⟩
    · intro e
      rw [List.append_eq_nil_iff] at e
      rw [e.1, e.2] at h0
      simp at h0
    · rw [h1, List.filter_append, List.filter_append, List.filter_filter]
      congr 1
      apply List.filter_congr
      intro y hyy
      have := hy y hyy
      cases e : q y with
      | true => simp
      | false =>
        have := this.2 e
        simp; omega
    · intro x hx
      rcases List.mem_append.mp hx with hx | hx
      · exact h2 x (List.mem_append_left _ hx)
      · exact (hy x hx).1
theorem sm_uni {f : List Nat → Nat} {top t2 m m2 : Nat} {Xs acc acc2 : List (List Nat)} (h0 : Xs ≠ []) (h : IsSm f top Xs m acc) (h2 : IsSm f t2 Xs m2 acc2) : m = m2 ∧ acc = acc2 := by
  rcases h with ⟨h, _⟩ | ⟨_, ha, hb, hc⟩
  · exact absurd h h0
  rcases h2 with ⟨h, _⟩ | ⟨_, ha2, hb2, hc2⟩
  · exact absurd h h0
  have a1 : ∃ x ∈ Xs, f x = m := by
    obtain ⟨x, hx⟩ := List.exists_mem_of_ne_nil _ ha
    rw [hb, List.mem_filter] at hx
    exact ⟨x, hx.1, by simpa using hx.2⟩
  have a2 : ∃ x ∈ Xs, f x = m2 := by
    obtain ⟨x, hx⟩ := List.exists_mem_of_ne_nil _ ha2
    rw [hb2, List.mem_filter] at hx
    exact ⟨x, hx.1, by simpa using hx.2⟩
  obtain ⟨x, hx, ex⟩ := a1
  obtain ⟨y, hy, ey⟩ := a2
  have e : m = m2 := by have := hc y hy; have := hc2 x hx; omega
  subst e
  exact ⟨rfl, hb.trans hb2.symm⟩
/-- the nodes with the least block, among those that are not used -/
def lows (D : Nat) (B : Nat → Nat) (p : List Nat) (u : Nat) : Nat → Nat × Nat
  | 0 => (64, 0)
  | v + 1 => if u.testBit v then lows D B p u v else if (lows D B p u v).1 < blk D B v p then lows D B p u v else (blk D B v p, if (lows D B p u v).1 ≤ blk D B v p then (lows D B p u v).2 ||| 2 ^ v else 2 ^ v)
theorem tb_or_pow (a v i : Nat) : (a ||| 2 ^ v).testBit i = (a.testBit i || decide (v = i)) := by
  rw [Nat.testBit_or, Nat.testBit_two_pow]
theorem lows_le {D : Nat} {B : Nat → Nat} {p : List Nat} {u : Nat} : ∀ v, (∀ w, w < v → u.testBit w = false → (lows D B p u v).1 ≤ blk D B w p) ∧ (∀ w, (lows D B p u v).2.testBit w = true ↔ (w < v ∧ u.testBit w = false ∧ blk D B w p = (lows D B p u v).1)) ∧ ((lows D B p u v).1 = 64 ∨ ∃ w, w < v ∧ u.testBit w = false ∧ blk D B w p = (lows D B p u v).1) ∧ (lows D B p u v).2 < 2 ^ v ∧ (lows D B p u v).1 ≤ 64
  | 0 => ⟨fun w h => absurd h (Nat.not_lt_zero _), fun w => by simp [lows], Or.inl rfl, by simp [lows], by simp [lows]⟩
  | v + 1 => by
    obtain ⟨h1, h2, h3, h4, h5⟩ := lows_le (D := D) (B := B) (p := p) (u := u) v
    have hp : 2 ^ v < 2 ^ (v + 1) := Nat.pow_lt_pow_right (by decide) (by omega)
    rw [lows]
    split
    · rename_i hu
      refine ⟨fun w hw hf => ?_, fun w => ?_, ?_, by omega, h5⟩
      · rcases Nat.lt_succ_iff_lt_or_eq.mp hw with hw | rfl
        · exact h1 w hw hf
        · rw [hu] at hf; simp at hf
      · rw [h2]
        refine ⟨fun ⟨a, b, c⟩ => ⟨by omega, b, c⟩, fun ⟨a, b, c⟩ => ⟨?_, b, c⟩⟩
        rcases Nat.lt_succ_iff_lt_or_eq.mp a with hw | rfl
        · exact hw
        · rw [hu] at b; simp at b
      · rcases h3 with h3 | ⟨w, a, b, c⟩
        · exact Or.inl h3
        · exact Or.inr ⟨w, by omega, b, c⟩
    · rename_i hu
      have hu : u.testBit v = false := by simpa using hu
      split
      · rename_i hlt
        refine ⟨fun w hw hf => ?_, fun w => ?_, ?_, by omega, h5⟩
        · rcases Nat.lt_succ_iff_lt_or_eq.mp hw with hw | rfl
          · exact h1 w hw hf
          · omega
        · rw [h2]
          refine ⟨fun ⟨a, b, c⟩ => ⟨by omega, b, c⟩, fun ⟨a, b, c⟩ => ⟨?_, b, c⟩⟩
          rcases Nat.lt_succ_iff_lt_or_eq.mp a with hw | rfl
          · exact hw
          · omega
        · rcases h3 with h3 | ⟨w, a, b, c⟩
          · exact Or.inl h3
          · exact Or.inr ⟨w, by omega, b, c⟩
      · rename_i hlt
        refine ⟨fun w hw hf => ?_, fun w => ?_, Or.inr ⟨v, by omega, hu, rfl⟩, ?_, by show blk D B v p ≤ 64; omega⟩
        · show blk D B v p ≤ _
          rcases Nat.lt_succ_iff_lt_or_eq.mp hw with hw | rfl
          · have := h1 w hw hf; omega
          · exact Nat.le_refl _
        · show (ite _ _ _ : Nat).testBit w = true ↔ (w < v + 1 ∧ u.testBit w = false ∧ blk D B w p = blk D B v p)
          split
          · rename_i hle
            have e : (lows D B p u v).1 = blk D B v p := by omega
            rw [tb_or_pow, Bool.or_eq_true, h2, e, decide_eq_true_iff]
            constructor
            · rintro (⟨a, b, c⟩ | rfl)
              · exact ⟨by omega, b, c⟩
              · exact ⟨by omega, hu, rfl⟩
            · rintro ⟨a, b, c⟩
              rcases Nat.lt_succ_iff_lt_or_eq.mp a with hw | rfl
              · exact Or.inl ⟨hw, b, c⟩
              · exact Or.inr rfl
          · rename_i hle
            rw [Nat.testBit_two_pow, decide_eq_true_iff]
            constructor
            · rintro rfl
              exact ⟨by omega, hu, rfl⟩
            · rintro ⟨a, b, c⟩
              rcases Nat.lt_succ_iff_lt_or_eq.mp a with hw | rfl
              · have := h1 w hw b; omega
              · rfl
        · show (ite _ _ _ : Nat) < _
          split
          · exact Nat.or_lt_two_pow (by omega) hp
          · exact hp
