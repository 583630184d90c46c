/-! the least code by the search's way, and what is read off the least codes: by the kernel -/
def mnC (n D : Nat) (B : Nat → Nat) : Nat → List Nat → Nat → Nat → Nat
  | 0, _, c, _ => c
  | k + 1, p, c, u => (List.range n).foldl (fun m v => if (lows D B p u n).2.testBit v then min m (mnC n D B k (p ++ [v]) (c * 2 ^ (p.length + 1) + (lows D B p u n).1) (u ||| 2 ^ v)) else m) (2 ^ 22)
theorem foldl_min_le {α : Type} (g : α → Option Nat) : ∀ (L : List α) (m : Nat), (∀ x ∈ L, ∀ y, g x = some y → L.foldl (fun m v => match g v with | some y => min m y | none => m) m ≤ y) ∧ L.foldl (fun m v => match g v with | some y => min m y | none => m) m ≤ m ∧ (L.foldl (fun m v => match g v with | some y => min m y | none => m) m = m ∨ ∃ x ∈ L, g x = some (L.foldl (fun m v => match g v with | some y => min m y | none => m) m))
  | [], m => ⟨by simp, Nat.le_refl _, Or.inl rfl⟩
  | x :: L, m => by
    rw [List.foldl_cons]
    obtain ⟨h1, h2, h3⟩ := foldl_min_le g L (match g x with | some y => min m y | none => m)
    refine ⟨fun z hz y hy => ?_, ?_, ?_⟩
    · rcases List.mem_cons.mp hz with rfl | hz
      · rw [hy] at h2 ⊢
        dsimp only at h2 ⊢
        omega
      · exact h1 z hz y hy
    · cases e : g x with
      | none => rw [e] at h2; exact h2
      | some y => rw [e] at h2; dsimp only at h2 ⊢; omega
    · rcases h3 with h3 | ⟨z, hz, h3⟩
      · cases e : g x with
        | none => rw [e] at h3; exact Or.inl h3
        | some y =>
          rw [e] at h3
          dsimp only at h3 ⊢
          by_cases g1 : m ≤ y
          · left; omega
          · right; refine ⟨x, by simp, ?_⟩; rw [e, h3]; congr 1; omega
      · exact Or.inr ⟨z, by simp [hz], h3⟩
theorem mnC_ok {n D : Nat} {B : Nat → Nat} (hn : n ≤ 6) : ∀ (k : Nat) (p : List Nat) (u : Nat), p.length + k = n → k ≤ unc u n → (∀ l ∈ lv n k p u, mnC n D B k p (cod D B p) u ≤ cod D B l) ∧ ∃ l ∈ lv n k p u, cod D B l = mnC n D B k p (cod D B p) u
  | 0, p, u, _, _ => by simp [lv, mnC]
  | k + 1, p, u, hk, hu => by
    have hL := lows_le (D := D) (B := B) (p := p) (u := u) n
    have hg := foldl_min_le (fun v => if (lows D B p u n).2.testBit v then some (mnC n D B k (p ++ [v]) (cod D B p * 2 ^ (p.length + 1) + (lows D B p u n).1) (u ||| 2 ^ v)) else none) (List.range n) (2 ^ 22)
    have ef : mnC n D B (k + 1) p (cod D B p) u = (List.range n).foldl (fun m v => match (if (lows D B p u n).2.testBit v then some (mnC n D B k (p ++ [v]) (cod D B p * 2 ^ (p.length + 1) + (lows D B p u n).1) (u ||| 2 ^ v)) else none) with | some y => min m y | none => m) (2 ^ 22) := by
      rw [mnC]
      congr 1
      funext m v
      by_cases e : (lows D B p u n).2.testBit v = true <;> simp [e]
    rw [← ef] at hg
    obtain ⟨g1, g2, g3⟩ := hg
    have st : ∀ w, (lows D B p u n).2.testBit w = true → w < n ∧ u.testBit w = false ∧ cod D B p * 2 ^ (p.length + 1) + (lows D B p u n).1 = cod D B (p ++ [w]) ∧ k ≤ unc (u ||| 2 ^ w) n := by
      intro w hw
      obtain ⟨a, b, c⟩ := (hL.2.1 w).mp hw
      have hc := unc_or (u := u) (w := w) n b
      rw [if_pos a] at hc
      exact ⟨a, b, by rw [← c, cod_snoc], by omega⟩
    have ih : ∀ w, (lows D B p u n).2.testBit w = true → _ := fun w hw => mnC_ok (n := n) (D := D) (B := B) hn k (p ++ [w]) (u ||| 2 ^ w) (by simp; omega) (st w hw).2.2.2
    have all : ∀ z ∈ zv n k p u (lows D B p u n).2 n, mnC n D B (k + 1) p (cod D B p) u ≤ cod D B z := by
      intro z hz
      unfold zv at hz
      rw [List.mem_flatMap] at hz
      obtain ⟨w, hw, hz⟩ := hz
      by_cases e : (lows D B p u n).2.testBit w = true
      · rw [if_pos e] at hz
        have h1 := (ih w e).1 z hz
        have h2 := g1 w hw _ (by rw [if_pos e])
        rw [(st w e).2.2.1] at h2
        omega
      · rw [if_neg e] at hz; simp at hz
    refine ⟨fun l hl => ?_, ?_⟩
    · obtain ⟨z, hz, hle⟩ := zv_some (D := D) (B := B) hk hn hu l hl
      have := all z hz; omega
    · rcases g3 with g3 | ⟨w, hw, g3⟩
      · exfalso
        obtain ⟨l, hl⟩ := List.exists_mem_of_ne_nil _ (lv_ne (n := n) (k + 1) p u hu)
        obtain ⟨z, hz, hle⟩ := zv_some (D := D) (B := B) hk hn hu l hl
        have h1 := all z hz
        have h2 := cod_lt21 (D := D) (B := B) (l := z) hn (by rw [lv_len _ _ _ _ (zv_in (fun w hw => (st w hw).2.1) z hz)]; omega)
        omega
      · by_cases e : (lows D B p u n).2.testBit w = true
        · rw [if_pos e] at g3
          obtain ⟨l, hl, hle⟩ := (ih w e).2
          refine ⟨l, zv_in (fun w hw => (st w hw).2.1) l ?_, ?_⟩
          · unfold zv
            rw [List.mem_flatMap]
            exact ⟨w, hw, by rw [if_pos e]; exact hl⟩
          · rw [hle, ← (st w e).2.2.1]
            exact Option.some.inj g3
        · rw [if_neg e] at g3; simp at g3
theorem frm_mnC {n D : Nat} {B : Nat → Nat} (hn : n ≤ 6) : frm n D B = mnC n D B n [] 0 0 := by
  obtain ⟨h1, l, hl, h2⟩ := mnC_ok (n := n) (D := D) (B := B) hn n [] 0 (by simp) (by rw [unc_0]; exact Nat.le_refl _)
  rcases frm_sm n D B with ⟨a, _⟩ | ⟨_, a, b, c⟩
  · exact absurd a (lex_ne n)
  · obtain ⟨x, hx⟩ := List.exists_mem_of_ne_nil _ a
    rw [b, List.mem_filter] at hx
    have e := hx.2
    simp at e
    have h3 := h1 x hx.1
    have h4 := c l hl
    show _ = mnC n D B n [] (cod D B []) 0
    omega
/-- what is to be seen of a least code -/
def chk (n : Nat) (dk : Bool) (c : Nat) : Bool :=
  (decide (cirF n (byM n c) < 128) && ((List.range' 3 4).all (fun k => hcF n (byM n c) k == (cirF n (byM n c)).testBit k) && (auO n (dkM n c) (byM n c) n 0 true == !jocF (dkM n c) (byM n c) n 0))) &&
  ((pnF n (byM n c) n 0 0 == some (pcsF n (byM n c) n).1 && (wtF n (byM n c) n 0 0 == some (wdF n (byM n c) n 0 0) && ((lwF (cirF n (byM n c)) 31 0).getD 0 == scF n (byM n c) (n - 2) 3 && popc (c &&& aeM n) 24 == enF (byM n c) n 0 0 / 2))) &&
  (decide (c < 2 ^ LN n) && (mnC n (dkM n c) (byM n c) n [] 0 0 == c && ((dk || dkM n c == 0) &&
  (n == 1 || ((CT (n - 1) dk).contains (c >>> n) && (decide (mxF (byM (n - 1) (c >>> n)) (n - 1) 0 0 ≤ mxF (byM n c) n 0 0) && ((cirF (n - 1) (byM (n - 1) (c >>> n)) &&& cirF n (byM n c) == cirF (n - 1) (byM (n - 1) (c >>> n))) && (!jocF (dkM (n - 1) (c >>> n)) (byM (n - 1) (c >>> n)) (n - 1) 0 || jocF (dkM n c) (byM n c) n 0)))))))))
def agC (n D : Nat) (B : Nat → Nat) (best : Nat) : Nat → List Nat → Nat → Nat → List (List Nat)
  | 0, p, c, _ => if c = best then [p] else []
  | k + 1, p, c, u => (List.range n).flatMap (fun v => if (lows D B p u n).2.testBit v then agC n D B best k (p ++ [v]) (c * 2 ^ (p.length + 1) + (lows D B p u n).1) (u ||| 2 ^ v) else [])
theorem fm_congr {α β : Type} {f g : α → List β} : ∀ {L : List α}, (∀ w ∈ L, f w = g w) → L.flatMap f = L.flatMap g
  | [], _ => rfl
  | w :: L, h => by rw [List.flatMap_cons, List.flatMap_cons, h w (by simp), fm_congr (fun v hv => h v (by simp [hv]))]
theorem agC_ok {n D best : Nat} {B : Nat → Nat} (hn : n ≤ 6) : ∀ (k : Nat) (p : List Nat) (u : Nat), p.length + k = n → k ≤ unc u n → (∀ l ∈ lv n k p u, best ≤ cod D B l) → (lv n k p u).filter (fun l => cod D B l == best) = agC n D B best k p (cod D B p) u
  | 0, p, u, _, _, _ => by
    rw [lv, agC]
    by_cases e : cod D B p = best <;> simp [e]
  | k + 1, p, u, hk, hu, hb => by
    have hL := lows_le (D := D) (B := B) (p := p) (u := u) n
    have bl : ∀ w, blk D B w p < 64 := fun w => Nat.lt_of_lt_of_le (blk_lt D B w p) (show _ ≤ 2 ^ 6 from Nat.pow_le_pow_right (by decide) (by omega))
    rw [lv, agC, List.filter_flatMap]
    refine fm_congr (fun w hwn => ?_)
    have hwn := List.mem_range.mp hwn
    by_cases e2 : u.testBit w = true
    · have : (lows D B p u n).2.testBit w = false := by
        cases e : (lows D B p u n).2.testBit w with
        | false => rfl
        | true => have := ((hL.2.1 w).mp e).2.1; rw [e2] at this; simp at this
      simp [e2, this]
    · have e2 : u.testBit w = false := by simpa using e2
      have hc := unc_or (u := u) (w := w) n e2
      rw [if_pos hwn] at hc
      have sub : ∀ l ∈ lv n k (p ++ [w]) (u ||| 2 ^ w), l ∈ lv n (k + 1) p u := by
        intro l hl
        rw [lv, List.mem_flatMap]
        exact ⟨w, List.mem_range.mpr hwn, by rw [if_neg (by rw [e2]; decide)]; exact hl⟩
      rw [if_neg (by rw [e2]; decide)]
      by_cases e : (lows D B p u n).2.testBit w = true
      · obtain ⟨a, b, c⟩ := (hL.2.1 w).mp e
        rw [if_pos e, agC_ok hn k (p ++ [w]) (u ||| 2 ^ w) (by simp; omega) (by omega) (fun l hl => hb l (sub l hl)), ← c, cod_snoc]
      · rw [if_neg e]
        rw [List.filter_eq_nil_iff]
        intro y hy
        have hlo := hL.1 w hwn e2
        have hne : blk D B w p ≠ (lows D B p u n).1 := by
          intro e3
          exact e ((hL.2.1 w).mpr ⟨hwn, e2, e3⟩)
        obtain ⟨w0, a, b, c⟩ : ∃ w0, w0 < n ∧ u.testBit w0 = false ∧ blk D B w0 p = (lows D B p u n).1 := by
          rcases hL.2.2.1 with h64 | h
          · have := bl w; omega
          · exact h
        have hc0 := unc_or (u := u) (w := w0) n b
        rw [if_pos a] at hc0
        obtain ⟨z, hz⟩ := List.exists_mem_of_ne_nil _ (lv_ne (n := n) k (p ++ [w0]) (u ||| 2 ^ w0) (by omega))
        have hz2 : z ∈ lv n (k + 1) p u := by
          rw [lv, List.mem_flatMap]
          exact ⟨w0, List.mem_range.mpr a, by rw [if_neg (by rw [b]; decide)]; exact hz⟩
        have h3 := hb z hz2
        have h1 := cod_lv D B k _ _ z hz
        have h2 := cod_lv D B k _ _ y hy
        rw [cod_snoc] at h1 h2
        simp only [List.length_append, List.length_cons, List.length_nil, Nat.zero_add] at h1 h2
        have : cod D B z < cod D B y := Nat.lt_of_not_le (fun g => absurd (Nat.div_le_div_right (c := 2 ^ (LN (p.length + 1 + k) - LN (p.length + 1))) g) (by omega))
        simp; omega
theorem ags_agC {n D : Nat} {B : Nat → Nat} (hn : n ≤ 6) : ags n D B = agC n D B (mnC n D B n [] 0 0) n [] 0 0 := by
  unfold ags
  rw [frm_mnC hn]
  exact agC_ok (p := []) hn n 0 (by simp) (by rw [unc_0]; exact Nat.le_refl _) (fun l hl => by rw [← frm_mnC hn]; exact frm_le hl)
/-- the nodes that stand in a place of some of the orders -/
def lkF (acc : List (List Nat)) (place : Nat) : Nat := acc.foldl (fun s l => s ||| 2 ^ l.getD place 0) 0
def posF (l : List Nat) (v : Nat) : Nat := l.findIdx (fun x => x == v)
def lsO (acc : List (List Nat)) (v : Nat) : Nat → Nat → Option Nat
  | 0, _ => some v
  | j + 1, p => if (lkF acc p).testBit v then lwF (lkF acc p) 31 0 else lsO acc v j (p + 1)
def lstE (acc : List (List Nat)) (a b : Nat) : Bool := acc.all (fun l => !(decide (min (l.getD a 0) (l.getD b 0) < a) || (min (l.getD a 0) (l.getD b 0) == a && decide (max (l.getD a 0) (l.getD b 0) < b))))
def lnR (n : Nat) (B : Nat → Nat) (acc : List (List Nat)) : Nat := (List.range n).foldl (fun s a => (List.range n).foldl (fun s b => if decide (a < b) && ((B a).testBit b && lstE acc a b) then s + 1 else s) s) 0
def chO2 (n c : Nat) (acc : List (List Nat)) : Bool :=
  ((List.range n).all (fun v => lsO acc v n 0 == lwF (lkF acc (posF (acc.headD []) v)) 31 0) && ((List.range n).foldl (fun s v => if lsO acc v n 0 == some v then s + 1 else s) 0 == (List.range n).foldl (fun s v => if lkF acc (posF (acc.headD []) v) &&& (2 ^ v - 1) == 0 then s + 1 else s) 0)) && stA n c (acc.headD []) acc / acc.length == lnR n (byM n c) acc
def chO (n c : Nat) : Bool := chO2 n c (agC n (dkM n c) (byM n c) c n [] 0 0)
