/-! the class's parts and nets with a node more -/
theorem eg_eq {n c a b : Nat} (ha : a < n) (hb : b < n) (hab : a ≠ b) : c.testBit (LN n - 2 - LN (max a b) - min a b) = (byM n c a).testBit b := by
  rw [byM_tb, decide_eq_true hb, Bool.true_and]
  unfold egb
  rw [decide_eq_true hab, Bool.true_and]
theorem f_part {n c s : Nat} (hn : n ≤ 6) (hc : c < 2 ^ 31) (hs : s < 2 ^ 31) {post : Int32 → Prop} (K : post (nI (cod (dkM n c) (byM n c) (nds s n)))) : F_X0_part (nI n) (nI c) (nI s) post := by
  unfold F_X0_part
  refine ⟨n + 1, ?_⟩
  have inner : ∀ (k : Nat) (K91 : Int32 → Int32 → Int32 → Int32 → Int32 → Prop), k < n → K91 (nI n) (nI c) (nI s) (nI (cod (dkM n c) (byM n c) (nds s k ++ [k]))) (nI k) → ∀ j e, e + j = k → F_X0_part_45 post K91 (j + 1) (nI n) (nI c) (nI s) (nI (cod (dkM n c) (byM n c) (nds s k) * 2 ^ ((nds s e).length + 1) + blk (dkM n c) (byM n c) k (nds s e))) (nI k) (nI e) := by
    intro k K91 hk K2 j
    induction j with
    | zero =>
      intro e he
      have : e = k := by omega
      subst this
      unfold F_X0_part_45
      refine br1 (Int32.le_refl _) ?_
      rw [cod_snoc] at K2
      exact K2
    | succ j ih =>
      intro e he
      have ih := ih (e + 1) (by omega)
      rw [nds_succ] at ih
      unfold F_X0_part_45 F_X0_part_85 F_X0_part_83
      have hb := ni_b1 hs (show e < 32 by omega)
      refine br2 (nI_ge (by omega) (by omega)) ⟨fun g => ?_, fun g => f_edge hn (by omega) hk (by omega) ?_⟩
      · rw [if_neg (fun h => g (hb.mpr h))] at ih
        rw [nI_1]; exact ih
      · rw [if_pos (hb.mp g), List.length_append, blk_snoc] at ih
        have ev : ∀ b : Bool, (byM n c k).testBit e = b → F_X0_part_45 post K91 (j + 1) (nI n) (nI c) (nI s) ((nI (cod (dkM n c) (byM n c) (nds s k) * 2 ^ ((nds s e).length + 1) + blk (dkM n c) (byM n c) k (nds s e)) <<< ((1 : Int32) &&& 31)) ||| nI b.toNat) (nI k) (nI (e + 1)) := by
          intro b hb
          rw [nI_dbl]
          rw [hb] at ih
          rw [show 2 * (cod (dkM n c) (byM n c) (nds s k) * 2 ^ ((nds s e).length + 1) + blk (dkM n c) (byM n c) k (nds s e)) + b.toNat = cod (dkM n c) (byM n c) (nds s k) * 2 ^ ((nds s e).length + [e].length + 1) + (2 * blk (dkM n c) (byM n c) k (nds s e) + b.toNat) by rw [show (nds s e).length + [e].length + 1 = ((nds s e).length + 1) + 1 from rfl, Nat.pow_succ 2 ((nds s e).length + 1), ← Nat.mul_assoc]; omega]
          exact ih
        refine ⟨fun g2 => ?_, fun g2 => ?_⟩
        · rw [and_pow0 hc, eg_eq (by omega) hk (by omega), byM_sym n c e k (by omega) hk] at g2
          rw [nI_1]
          exact ev false g2
        · have g2 : (byM n c k).testBit e = true := by
            cases e2 : (byM n c k).testBit e with
            | true => rfl
            | false => exact absurd ((and_pow0 hc).mpr (by rw [eg_eq (by omega) hk (by omega), byM_sym n c e k (by omega) hk]; exact e2)) g2
          dsimp only
          rw [nI_1]
          exact ev true g2
  have main : ∀ j k, k + j = n → F_X0_part_5 post (j + 1) (nI n) (nI c) (nI s) (nI (cod (dkM n c) (byM n c) (nds s k))) (nI k) := by
    intro j
    induction j with
    | zero =>
      intro k hk
      have : k = n := by omega
      subst this
      unfold F_X0_part_5
      exact br1 (Int32.le_refl _) K
    | succ j ih =>
      intro k hk
      have ih := ih (k + 1) (by omega)
      rw [nds_succ] at ih
      unfold F_X0_part_5 F_X0_part_91 F_X0_part_40
      have hb := ni_b1 hs (show k < 32 by omega)
      refine br2 (nI_ge (by omega) (by omega)) ⟨fun g => ?_, fun g => f_dark hn (by omega) ?_⟩
      · rw [if_neg (fun h => g (hb.mpr h))] at ih
        rw [nI_1]; exact ih
      · rw [if_pos (hb.mp g)] at ih
        have ed : c.testBit (LN n - 1 - LN k) = (dkM n c).testBit k := by
          rw [dkM_tb, decide_eq_true (show k < n by omega), Bool.true_and]; rfl
        have ev : ∀ b : Bool, (dkM n c).testBit k = b → F_X0_part_45 post (fun x0 x1 x2 x3 x4 => F_X0_part_5 post (j + 1) x0 x1 x2 x3 (x4 + 1)) (k + 1) (nI n) (nI c) (nI s) ((nI (cod (dkM n c) (byM n c) (nds s k)) <<< ((1 : Int32) &&& 31)) ||| nI b.toNat) (nI k) (nI 0) := by
          intro b hb
          rw [nI_dbl]
          have := inner k (fun x0 x1 x2 x3 x4 => F_X0_part_5 post (j + 1) x0 x1 x2 x3 (x4 + 1)) (by omega) (by rw [nI_1]; exact ih) k 0 (by omega)
          rw [show cod (dkM n c) (byM n c) (nds s k) * 2 ^ ((nds s 0).length + 1) + blk (dkM n c) (byM n c) k (nds s 0) = 2 * cod (dkM n c) (byM n c) (nds s k) + b.toNat by
            show cod (dkM n c) (byM n c) (nds s k) * 2 ^ (0 + 1) + ((dkM n c).testBit k).toNat = _
            rw [hb]; omega] at this
          exact this
        refine ⟨fun g2 => ⟨k + 1, ?_⟩, fun g2 => ⟨k + 1, ?_⟩⟩
        · rw [and_pow0 hc, ed] at g2
          exact ev false g2
        · have g2 : (dkM n c).testBit k = true := by
            cases e2 : (dkM n c).testBit k with
            | true => rfl
            | false => exact absurd ((and_pow0 hc).mpr (by rw [ed]; exact e2)) g2
          exact ev true g2
  exact main n 0 (by omega)
/-- the net with a node more -/
def grD (n D : Nat) (dk : Bool) : Nat := D ||| dk.toNat * 2 ^ n
def grB (n : Nat) (B : Nat → Nat) (set v : Nat) : Nat := if v = n then set else B v ||| (set.testBit v).toNat * 2 ^ n
theorem grD_tb {n D : Nat} {dk : Bool} (v : Nat) : (grD n D dk).testBit v = (D.testBit v || (dk && decide (v = n))) := by
  unfold grD; rw [Nat.testBit_or, tb_bool]
theorem grB_tb {n : Nat} {B : Nat → Nat} {set v u : Nat} (hv : v ≠ n) : (grB n B set v).testBit u = ((B v).testBit u || (set.testBit v && decide (u = n))) := by
  unfold grB; rw [if_neg hv, Nat.testBit_or, tb_bool]
theorem tb_ge {x n i : Nat} (h : x < 2 ^ n) (hi : n ≤ i) : x.testBit i = false := Nat.testBit_lt_two_pow (Nat.lt_of_lt_of_le h (Nat.pow_le_pow_right (by decide) hi))
theorem gb_gr {n : Nat} {B : Nat → Nat} {set : Nat} (hB : GB n B) (hs : set < 2 ^ n) : GB (n + 1) (grB n B set) := by
  have bn : ∀ v, v < n → (B v).testBit n = false := fun v hv => tb_ge (hB.2.2 v hv) (Nat.le_refl _)
  have sn : set.testBit n = false := tb_ge hs (Nat.le_refl _)
  have en : ∀ u, (grB n B set n).testBit u = set.testBit u := fun u => by unfold grB; rw [if_pos rfl]
  refine ⟨fun u v hu hv => ?_, fun u hu => ?_, fun u hu => ?_⟩
  · by_cases h1 : u = n
    · subst h1
      by_cases h2 : v = u
      · subst h2; rfl
      · rw [en, grB_tb h2, bn v (by omega)]; simp
    · by_cases h2 : v = n
      · subst h2
        rw [en, grB_tb h1, bn u (by omega)]; simp
      · rw [grB_tb h1, grB_tb h2, hB.1 u v (by omega) (by omega), decide_eq_false h1, decide_eq_false h2]
        simp
  · by_cases h1 : u = n
    · subst h1; rw [en, sn]
    · rw [grB_tb h1, hB.2.1 u (by omega), decide_eq_false h1]; simp
  · have p : 2 ^ n < 2 ^ (n + 1) := Nat.pow_lt_pow_right (by decide) (by omega)
    unfold grB
    split
    · omega
    · exact Nat.or_lt_two_pow (Nat.lt_trans (hB.2.2 u (by omega)) p) (bool_pow_lt _ _)
theorem grD_lt {n D : Nat} {dk : Bool} (hD : D < 2 ^ n) : grD n D dk < 2 ^ (n + 1) := Nat.or_lt_two_pow (Nat.lt_trans hD (Nat.pow_lt_pow_right (by decide) (by omega))) (bool_pow_lt _ _)
theorem gr_cod {n D : Nat} {B : Nat → Nat} {set : Nat} {dk : Bool} (hB : GB n B) (hD : D < 2 ^ n) : cod (grD n D dk) (grB n B set) (List.range n) = cod D B (List.range n) := by
  refine cod_congr (fun v hv => ?_) (fun v hv u hu => ?_)
  · have := List.mem_range.mp hv
    rw [grD_tb, decide_eq_false (by omega)]; simp
  · have := List.mem_range.mp hv
    have := List.mem_range.mp hu
    rw [grB_tb (by omega), decide_eq_false (show ¬ u = n by omega)]; simp
theorem f_grow {n c set : Nat} (hn : n ≤ 6) (hc : c < 2 ^ LN n) (hs : set < 2 ^ n) {p3 : Int32} {post : Int32 → Prop} (K : post (nI (cod (grD n (dkM n c) (decide (p3 ≠ 0))) (grB n (byM n c) set) (List.range (n + 1))))) : F_X0_grow (nI n) (nI c) (nI set) p3 post := by
  have hG := gr_cod (n := n) (set := set) (dk := decide (p3 ≠ 0)) (gb_byM n c) (show dkM n c < 2 ^ n from mask_lt _ _)
  rw [cod_self hn hc] at hG
  have s64 := lt64 hn hs
  have main : ∀ j k, k + j = n → F_X0_grow_18 post (j + 1) (nI n) (nI set) (nI (c * 2 ^ (k + 1) + blk (grD n (dkM n c) (decide (p3 ≠ 0))) (grB n (byM n c) set) n (List.range k))) (nI k) := by
    intro j
    induction j with
    | zero =>
      intro k hk
      have : k = n := by omega
      subst this
      unfold F_X0_grow_18
      refine br1 (Int32.le_refl _) ?_
      rw [List.range_succ, cod_snoc, hG, List.length_range] at K
      exact K
    | succ j ih =>
      intro k hk
      have ih := ih (k + 1) (by omega)
      rw [List.range_succ, blk_snoc] at ih
      unfold F_X0_grow_18
      refine br2 (nI_ge (by omega) (by omega)) ?_
      intro x hx
      rw [ni_tb (by omega) (by omega), nI_dbl] at hx
      subst hx
      rw [nI_1]
      have eb : (grB n (byM n c) set n).testBit k = set.testBit k := by unfold grB; rw [if_pos rfl]
      rw [eb] at ih
      rw [show 2 * (c * 2 ^ (k + 1) + blk (grD n (dkM n c) (decide (p3 ≠ 0))) (grB n (byM n c) set) n (List.range k)) + (set.testBit k).toNat = c * 2 ^ (k + 1 + 1) + (2 * blk (grD n (dkM n c) (decide (p3 ≠ 0))) (grB n (byM n c) set) n (List.range k) + (set.testBit k).toNat) by rw [Nat.pow_succ 2 (k + 1), ← Nat.mul_assoc]; omega]
      exact ih
  have m0 := main n 0 (by omega)
  have dn : (grD n (dkM n c) (decide (p3 ≠ 0))).testBit n = decide (p3 ≠ 0) := by
    rw [grD_tb, tb_ge (show dkM n c < 2 ^ n from mask_lt _ _) (Nat.le_refl _)]; simp
  have e0 : c * 2 ^ (0 + 1) + blk (grD n (dkM n c) (decide (p3 ≠ 0))) (grB n (byM n c) set) n (List.range 0) = 2 * c + (decide (p3 ≠ 0)).toNat := by
    show c * 2 ^ (0 + 1) + ((grD n (dkM n c) (decide (p3 ≠ 0))).testBit n).toNat = _
    rw [dn]; omega
  rw [e0] at m0
  unfold F_X0_grow F_X0_grow_12
  refine ⟨fun g => ⟨n + 1, ?_⟩, fun g => ⟨n + 1, ?_⟩⟩
  · have h2 := nI_dbl c false
    have : (decide (p3 ≠ 0)) = false := by simp [g]
    rw [this, ← h2] at m0
    exact m0
  · have h2 := nI_dbl c true
    have : (decide (p3 ≠ 0)) = true := by simp [g]
    rw [this, ← h2] at m0
    exact m0
