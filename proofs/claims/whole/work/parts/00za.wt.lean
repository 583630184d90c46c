/-! how many bits the code of an order has: as many as that of any other order -/
def sme (e : Nat → Nat → Bool) (v : Nat) : List Nat → Nat
  | [] => 0
  | u :: r => (e v u).toNat + sme e v r
def wt (d : Nat → Bool) (e : Nat → Nat → Bool) : List Nat → Nat
  | [] => 0
  | v :: r => (d v).toNat + sme e v r + wt d e r
theorem sme_perm (e : Nat → Nat → Bool) (v : Nat) {l l' : List Nat} (h : l.Perm l') : sme e v l = sme e v l' := by
  induction h with
  | nil => rfl
  | cons x _ ih => rw [sme, sme, ih]
  | swap x y l => rw [sme, sme, sme, sme]; omega
  | trans _ _ ih1 ih2 => rw [ih1, ih2]
theorem wt_perm {d : Nat → Bool} {e : Nat → Nat → Bool} (he : ∀ u v, e u v = e v u) {l l' : List Nat} (h : l.Perm l') : wt d e l = wt d e l' := by
  induction h with
  | nil => rfl
  | cons x hp ih => rw [wt, wt, ih, sme_perm e x hp]
  | swap x y l =>
    rw [wt, wt, wt, wt, sme, sme, he x y]; omega
  | trans _ _ ih1 ih2 => rw [ih1, ih2]
theorem popc_cat {x y k : Nat} (a : Nat) (hy : y < 2 ^ k) : popc (x * 2 ^ k + y) (k + a) = popc y k + popc x a := by
  rw [popc_add]
  have h1 := popc_mod (x * 2 ^ k + y) k k (Nat.le_refl _)
  rw [Nat.add_comm (x * 2 ^ k), Nat.add_mul_mod_self_right, Nat.mod_eq_of_lt hy] at h1
  rw [Nat.add_comm (x * 2 ^ k), ← h1, Nat.add_mul_div_right _ _ (Nat.pow_pos (by decide)), Nat.div_eq_of_lt hy, Nat.zero_add]
theorem popc_bool (b : Bool) : popc b.toNat 1 = b.toNat := by cases b <;> decide
theorem popc_blk (D : Nat) (B : Nat → Nat) (v : Nat) : ∀ p : List Nat, popc (blk D B v p) (p.length + 1) = (D.testBit v).toNat + sme (fun a b => (B a).testBit b) v p.reverse := by
  intro p
  induction hn : p.length generalizing p with
  | zero =>
    have : p = [] := List.length_eq_zero_iff.mp hn
    subst this
    show popc (D.testBit v).toNat 1 = _ + 0
    rw [popc_bool]; rfl
  | succ m ih =>
    obtain ⟨q, u, rfl⟩ : ∃ q u, p = q ++ [u] := by
      rcases List.eq_nil_or_concat p with rfl | ⟨q, v, rfl⟩
      · simp at hn
      · exact ⟨q, v, by simp⟩
    have hq : q.length = m := by simp at hn; omega
    have h := popc_cat (x := blk D B v q) (y := ((B v).testBit u).toNat) (k := 1) (m + 1) (by have := bool_lt2 ((B v).testBit u); omega)
    rw [blk_snoc, show m + 1 + 1 = 1 + (m + 1) by omega, Nat.mul_comm 2]
    rw [Nat.pow_one] at h
    rw [h, ih q hq, popc_bool, List.reverse_append]
    simp [sme]
    omega
theorem popc_cod (D : Nat) (B : Nat → Nat) : ∀ l : List Nat, popc (cod D B l) (LN l.length) = wt (fun v => D.testBit v) (fun a b => (B a).testBit b) l.reverse := by
  intro l
  induction hn : l.length generalizing l with
  | zero =>
    have : l = [] := List.length_eq_zero_iff.mp hn
    subst this; rfl
  | succ m ih =>
    obtain ⟨q, u, rfl⟩ : ∃ q u, l = q ++ [u] := by
      rcases List.eq_nil_or_concat l with rfl | ⟨q, v, rfl⟩
      · simp at hn
      · exact ⟨q, v, by simp⟩
    have hq : q.length = m := by simp at hn; omega
    have hb := blk_lt D B u q
    rw [hq] at hb
    rw [cod_snoc, hq, LN_succ, Nat.add_comm (LN m), popc_cat _ hb, ih q hq, List.reverse_append]
    have h2 := popc_blk D B u q
    rw [hq] at h2
    rw [h2]
    simp [wt]
theorem wt_congr {d d' : Nat → Bool} {e e' : Nat → Nat → Bool} : ∀ {l : List Nat}, (∀ v ∈ l, d v = d' v) → (∀ v ∈ l, ∀ u ∈ l, e v u = e' v u) → wt d e l = wt d' e' l
  | [], _, _ => rfl
  | v :: r, h1, h2 => by
    have g : ∀ r', (∀ u ∈ r', e v u = e' v u) → sme e v r' = sme e' v r' := by
      intro r'
      induction r' with
      | nil => intro _; rfl
      | cons u r' ih => intro h; rw [sme, sme, h u (by simp), ih (fun w hw => h w (by simp [hw]))]
    rw [wt, wt, h1 v (by simp), g r (fun u hu => h2 v (by simp) u (by simp [hu])), wt_congr (fun w hw => h1 w (by simp [hw])) (fun w hw u hu => h2 w (by simp [hw]) u (by simp [hu]))]
theorem lex_perm : ∀ n, n ≤ 6 → ∀ l ∈ lex n, l.Perm (List.range n) := by
  have h : ∀ n, n ≤ 6 → (lex n).all (fun l => l.isPerm (List.range n)) = true := by decide +kernel
  intro n hn l hl
  have := List.all_eq_true.mp (h n hn) l hl
  exact List.isPerm_iff.mp this
theorem popc_order {n D : Nat} {B : Nat → Nat} (hn : n ≤ 6) (hB : GB n B) {l : List Nat} (hl : l ∈ lex n) : popc (cod D B l) (LN n) = popc (cod D B (List.range n)) (LN n) := by
  have h1 := popc_cod D B l
  have h2 := popc_cod D B (List.range n)
  rw [lex_mem_len hl] at h1
  rw [List.length_range] at h2
  rw [h1, h2]
  have e : ∀ l' : List Nat, (∀ x ∈ l', x < n) → wt (fun v => D.testBit v) (fun a b => (B a).testBit b) l'.reverse = wt (fun v => D.testBit v) (fun a b => decide (a < n) && (decide (b < n) && (B a).testBit b)) l'.reverse := by
    intro l' h
    refine wt_congr (fun _ _ => rfl) (fun v hv u hu => ?_)
    rw [decide_eq_true (h v (List.mem_reverse.mp hv)), decide_eq_true (h u (List.mem_reverse.mp hu))]; rfl
  rw [e l (lex_mem hl), e (List.range n) (fun x hx => List.mem_range.mp hx)]
  refine wt_perm (fun u v => ?_) ((List.reverse_perm l).trans ((lex_perm n hn l hl).trans (List.reverse_perm _).symm))
  by_cases hu : u < n
  · by_cases hv : v < n
    · simp [hu, hv, hB.1 u v hu hv]
    · simp [hv]
  · simp [hu]
theorem popc_frm {n D : Nat} {B : Nat → Nat} (hn : n ≤ 6) (hB : GB n B) : popc (frm n D B) (LN n) = popc (cod D B (List.range n)) (LN n) := by
  rcases frm_sm n D B with ⟨a, _⟩ | ⟨_, a, b, _⟩
  · exact absurd a (lex_ne n)
  · obtain ⟨x, hx⟩ := List.exists_mem_of_ne_nil _ a
    rw [b, List.mem_filter] at hx
    have e := hx.2
    simp at e
    rw [← e]
    exact popc_order hn hB hx.1
theorem popc_24 {x n : Nat} (hn : n ≤ 6) (hx : x < 2 ^ LN n) : popc x 24 = popc x (LN n) := by
  have hL6 := LN_mono hn
  have h6 : LN 6 = 21 := rfl
  have := popc_big hx (24 - LN n)
  rw [show LN n + (24 - LN n) = 24 by omega] at this
  exact this
/-- the least code has as many bits as the code -/
theorem popc_form {n c : Nat} (hn : n ≤ 6) (hc : c < 2 ^ LN n) : popc (frm n (dkM n c) (byM n c)) 24 = popc c 24 := by
  rw [popc_24 hn (frm_lt _ _ _), popc_24 hn hc, popc_frm hn (gb_byM n c), cod_self hn hc]
