/-! the nodes of one net laid on those of another: how many lines part both -/
def sX (A C : Nat → Nat) (a v : Nat) (p : List Nat) : Nat → Nat
  | 0 => 0
  | b + 1 => sX A C a v p b + ((A a).testBit b ^^ (C v).testBit (p.getD b 0)).toNat
theorem sX_le (A C : Nat → Nat) (a v : Nat) (p : List Nat) : ∀ k, sX A C a v p k ≤ k
  | 0 => Nat.le_refl _
  | k + 1 => by
    have := sX_le A C a v p k
    have := bool_lt2 ((A a).testBit k ^^ (C v).testBit (p.getD k 0))
    rw [sX]
    omega
theorem sX_congr (A C : Nat → Nat) (a v : Nat) {p q : List Nat} : ∀ k, (∀ i, i < k → p.getD i 0 = q.getD i 0) → sX A C a v p k = sX A C a v q k
  | 0, _ => rfl
  | k + 1, h => by rw [sX, sX, sX_congr A C a v k (fun i hi => h i (by omega)), h k (by omega)]
def cP (D E : Nat) (A C : Nat → Nat) (l : List Nat) : Nat → Nat → Nat → Nat
  | 0, _, t => t
  | j + 1, a, t => if D.testBit a = E.testBit (l.getD a 0) then cP D E A C l j (a + 1) (t + sX A C a (l.getD a 0) l a) else 99
theorem xor_dbl (a c : Nat) (b d : Bool) : (2 * a + b.toNat) ^^^ (2 * c + d.toNat) = 2 * (a ^^^ c) + (b ^^ d).toNat := by
  apply Nat.eq_of_testBit_eq
  intro i
  have t0 : ∀ (x : Nat) (y : Bool), (2 * x + y.toNat).testBit 0 = y := fun x y => by
    rw [Nat.testBit_zero]
    cases y
    · simp
    · show decide ((2 * x + 1) % 2 = 1) = true
      rw [decide_eq_true_iff]; omega
  have ts : ∀ (x : Nat) (y : Bool) (j : Nat), (2 * x + y.toNat).testBit (j + 1) = x.testBit j := fun x y j => by
    rw [Nat.testBit_succ]
    congr 1
    have := bool_lt2 y
    omega
  cases i with
  | zero => rw [Nat.testBit_xor, t0, t0, t0]
  | succ i => rw [Nat.testBit_xor, ts, ts, ts, Nat.testBit_xor]
theorem popc_dbl (x : Nat) (b : Bool) : ∀ k, popc (2 * x + b.toNat) (k + 1) = b.toNat + popc x k := by
  intro k
  have := popc_cat (x := x) (y := b.toNat) (k := 1) k (bool_lt2 b)
  rw [Nat.pow_one, Nat.mul_comm, Nat.add_comm 1 k] at this
  rw [this, popc_bool]
/-- the block of a node of each net, laid on each other -/
def xB (D E : Nat) (A C : Nat → Nat) (a v : Nat) (p : List Nat) (k : Nat) : Nat := blk D A a (List.range k) ^^^ blk E C v (p.take k)
theorem xB_facts (D E : Nat) (A C : Nat → Nat) (a v : Nat) (p : List Nat) : ∀ k, k ≤ p.length → xB D E A C a v p k < 2 ^ (k + 1) ∧ xB D E A C a v p k / 2 ^ k = (D.testBit a ^^ E.testBit v).toNat ∧ popc (xB D E A C a v p k) (k + 1) = (D.testBit a ^^ E.testBit v).toNat + sX A C a v p k
  | 0, _ => by
    unfold xB
    have e : blk D A a (List.range 0) ^^^ blk E C v (p.take 0) = (D.testBit a ^^ E.testBit v).toNat := by
      show (D.testBit a).toNat ^^^ (E.testBit v).toNat = _
      cases D.testBit a <;> cases E.testBit v <;> decide
    rw [e]
    refine ⟨bool_lt2 _, by simp, ?_⟩
    rw [popc_bool]
    rfl
  | k + 1, h => by
    obtain ⟨h1, h2, h3⟩ := xB_facts D E A C a v p k (by omega)
    have e : xB D E A C a v p (k + 1) = 2 * xB D E A C a v p k + ((A a).testBit k ^^ (C v).testBit (p.getD k 0)).toNat := by
      unfold xB
      rw [List.range_succ, take_succ' (show k < p.length by omega), blk_snoc, blk_snoc, xor_dbl]
    have hb := bool_lt2 ((A a).testBit k ^^ (C v).testBit (p.getD k 0))
    rw [e]
    refine ⟨?_, ?_, ?_⟩
    · rw [Nat.pow_succ]; omega
    · rw [Nat.pow_succ, Nat.mul_comm (2 ^ k) 2, ← Nat.div_div_eq_div_mul, ← h2]
      congr 1
      omega
    · rw [popc_dbl, h3, sX]
      omega
theorem cod_pre (D : Nat) (B : Nat → Nat) : ∀ (r p : List Nat), cod D B (p ++ r) / 2 ^ (LN (p.length + r.length) - LN p.length) = cod D B p
  | [], p => by simp
  | v :: r, p => by
    have ih := cod_pre D B r (p ++ [v])
    rw [List.append_assoc, List.length_append] at ih
    have e1 : p.length + 1 + r.length = p.length + (v :: r).length := by simp; omega
    have m : LN (p.length + 1) ≤ LN (p.length + (v :: r).length) := LN_mono (by simp)
    have s := LN_succ p.length
    have e2 : LN (p.length + (v :: r).length) - LN p.length = (LN (p.length + (v :: r).length) - LN (p.length + 1)) + (p.length + 1) := by omega
    have ih : cod D B (p ++ v :: r) / 2 ^ (LN (p.length + 1 + r.length) - LN (p.length + 1)) = cod D B (p ++ [v]) := ih
    rw [e1] at ih
    rw [e2, Nat.pow_add, ← Nat.div_div_eq_div_mul, ih, cod_snoc]
    have := blk_lt D B v p
    have pp : 0 < 2 ^ (p.length + 1) := Nat.pow_pos (by decide)
    rw [Nat.mul_comm, Nat.mul_add_div pp, Nat.div_eq_of_lt this]; omega
theorem range_pre (m : Nat) : ∀ d, ∃ r : List Nat, r.length = d ∧ List.range (m + d) = List.range m ++ r
  | 0 => ⟨[], rfl, by simp⟩
  | d + 1 => by
    obtain ⟨r, h1, h2⟩ := range_pre m d
    exact ⟨r ++ [m + d], by simp [h1], by rw [← Nat.add_assoc, List.range_succ, h2, List.append_assoc]⟩
theorem wanted_blk {n c d : Nat} (hn : n ≤ 6) (hc : c < 2 ^ LN n) (hd : d < n) : c / 2 ^ (LN n - LN (d + 1)) % 2 ^ (d + 1) = blk (dkM n c) (byM n c) d (List.range d) := by
  obtain ⟨r, h1, h2⟩ := range_pre (d + 1) (n - (d + 1))
  rw [show d + 1 + (n - (d + 1)) = n by omega] at h2
  have h3 := cod_pre (dkM n c) (byM n c) r (List.range (d + 1))
  rw [← h2, cod_self hn hc, List.length_range, h1, show d + 1 + (n - (d + 1)) = n by omega] at h3
  rw [h3, List.range_succ, cod_snoc, List.length_range]
  have := blk_lt (dkM n c) (byM n c) d (List.range d)
  rw [List.length_range] at this
  rw [Nat.mul_comm, Nat.mul_add_mod, Nat.mod_eq_of_lt this]
theorem lanes_step {n D v : Nat} {B : Nat → Nat} {p : List Nat} {fans : Nat → Int64} (hn : n ≤ 6) (hv : v < n) (hp : p.length + 1 ≤ 6) (hsym : ∀ v j, v < n → j < n → (B v).testBit j = (B j).testBit v) (hfan : fans v = lN (lanes n (fun j => ((B v).testBit j).toNat))) : (lN (lanes n (fun v => blk D B v p)) <<< ((1 : Int32).toInt64 &&& 63)) ||| fans v = lN (lanes n (fun w => blk D B w (p ++ [v]))) := by
  have bl : ∀ w, blk D B w p < 64 := fun w => Nat.lt_of_lt_of_le (blk_lt D B w p) (show _ ≤ 2 ^ 6 from Nat.pow_le_pow_right (by decide) (by omega))
  rw [hfan]
  have h1 : lN (lanes n (fun v => blk D B v p)) <<< ((1 : Int32).toInt64 &&& 63) = lN (2 * lanes n (fun v => blk D B v p)) := by
    have := ln_shl (lanes n (fun v => blk D B v p)) (show 1 < 64 by omega)
    rw [Nat.mul_comm]
    exact this
  rw [h1, ln_or, lanes_shift (fun w => by have := bl w; omega)]
  have : ∀ m, m ≤ n → lanes m (fun w => 2 * blk D B w p + ((B v).testBit w).toNat) = lanes m (fun w => blk D B w (p ++ [v])) := by
    intro m
    induction m with
    | zero => intro _; rfl
    | succ m ih => intro hm; rw [lanes, lanes, ih (by omega), blk_snoc, hsym v m hv (by omega)]
  rw [this n (Nat.le_refl _)]
def mnL (f : List Nat → Nat) (L : List (List Nat)) (b : Nat) : Nat := L.foldl (fun b l => min b (f l)) b
theorem mnL_app (f : List Nat → Nat) (L M : List (List Nat)) (b : Nat) : mnL f (L ++ M) b = mnL f M (mnL f L b) := by unfold mnL; rw [List.foldl_append]
theorem mnL_le (f : List Nat → Nat) : ∀ (L : List (List Nat)) (b : Nat), mnL f L b ≤ b
  | [], b => Nat.le_refl _
  | l :: L, b => Nat.le_trans (mnL_le f L (min b (f l))) (Nat.min_le_left _ _)
theorem mnL_far (f : List Nat → Nat) : ∀ (L : List (List Nat)) (b : Nat), (∀ l ∈ L, b ≤ f l) → mnL f L b = b
  | [], b, _ => rfl
  | l :: L, b, h => by
    show mnL f L (min b (f l)) = b
    rw [Nat.min_eq_left (h l (by simp))]
    exact mnL_far f L b (fun x hx => h x (by simp [hx]))
theorem mnL_min (f : List Nat → Nat) : ∀ (L : List (List Nat)) (b c : Nat), mnL f L (min c b) = min c (mnL f L b)
  | [], b, c => rfl
  | l :: L, b, c => by
    show mnL f L (min (min c b) (f l)) = min c (mnL f L (min b (f l)))
    rw [Nat.min_assoc, mnL_min f L (min b (f l)) c]
theorem mnL_lb (f : List Nat → Nat) : ∀ (L : List (List Nat)) (b : Nat) (l : List Nat), l ∈ L → mnL f L b ≤ f l
  | x :: L, b, l, h => by
    show mnL f L (min b (f x)) ≤ f l
    rcases List.mem_cons.mp h with rfl | h
    · exact Nat.le_trans (mnL_le f L _) (Nat.min_le_right _ _)
    · exact mnL_lb f L _ l h
theorem cP_ge {D E : Nat} {A C : Nat → Nat} {l : List Nat} : ∀ j a t, t ≤ 99 → t ≤ cP D E A C l j a t
  | 0, a, t, _ => Nat.le_refl _
  | j + 1, a, t, ht => by
    rw [cP]
    split
    · by_cases h : t + sX A C a (l.getD a 0) l a ≤ 99
      · exact Nat.le_trans (Nat.le_add_right _ _) (cP_ge j (a + 1) _ h)
      · have : ∀ j a t, 99 ≤ t → 99 ≤ cP D E A C l j a t := by
          intro j
          induction j with
          | zero => intro a t h; exact h
          | succ j ih =>
            intro a t h
            rw [cP]
            split
            · exact ih _ _ (by omega)
            · exact Nat.le_refl _
        exact Nat.le_trans ht (this j (a + 1) _ (by omega))
    · exact ht
def LayOk (n D E : Nat) (A C : Nat → Nat) (code : Nat) (FA : Int32 → Int32 → Int32 → (Nat → Int64) → Int32 → Int32 → Int32 → Int32 → Int64 → (Int32 → Prop) → Prop) (fans : Nat → Int64) (k : Nat) : Prop :=
  ∀ (p : List Nat) (u t b : Nat) (post : Int32 → Prop), p.length + k = n → u < 2 ^ n → t ≤ 6 * p.length → b ≤ 16 → (∀ l ∈ lv n k p u, cP D E A C l n 0 0 = cP D E A C l k p.length t) → post (nI (mnL (fun l => cP D E A C l n 0 0) (lv n k p u) b)) → FA (nI code) (nI n) (nI n) fans (nI b) (nI p.length) (nI u) (nI t) (lN (lanes n (fun v => blk E C v p))) post
theorem lay_ok {n E : Nat} {C : Nat → Nat} {code : Nat} {fans : Nat → Int64} (hn : n ≤ 6) (hc : code < 2 ^ LN n) (hsym : ∀ v j, v < n → j < n → (C v).testBit j = (C j).testBit v) (hfan : ∀ v, v < n → fans v = lN (lanes n (fun j => ((C v).testBit j).toNat))) : ∀ k fu, k < fu → LayOk n (dkM n code) E (byM n code) C code (F_X4_layNext fu) fans k := by
  have hL6 := LN_mono hn
  have h6 : LN 6 = 21 := rfl
  have hc21 : code < 2 ^ 21 := Nat.lt_of_lt_of_le hc (Nat.pow_le_pow_right (by decide) (by omega))
  intro k
  induction k with
  | zero =>
    intro fu hfu p u t b post hp hu ht hb hl K
    obtain ⟨fu, rfl⟩ : ∃ f, fu = f + 1 := ⟨fu - 1, by omega⟩
    have hm : p ∈ lv n 0 p u := by simp [lv]
    have e := hl p hm
    have e2 : lv n 0 p u = [p] := rfl
    rw [e2] at K
    have e3 : mnL (fun l => cP (dkM n code) E (byM n code) C l n 0 0) [p] b = min b t := by
      show min b (cP (dkM n code) E (byM n code) C p n 0 0) = min b t
      rw [e]
      rfl
    rw [e3] at K
    unfold F_X4_layNext FB_X4_layNext
    by_cases c : t < b
    · rw [Nat.min_eq_right (by omega)] at K
      exact br1 (nI_lt c (by omega)) (br2 (nI_nlt (by omega) (by omega)) K)
    · rw [Nat.min_eq_left (by omega)] at K
      exact br2 (nI_nlt (by omega) (by omega)) K
  | succ k ih =>
    intro fu hfu p u t b post hp hu ht hb hl K
    obtain ⟨fu, rfl⟩ : ∃ f, fu = f + 1 := ⟨fu - 1, by omega⟩
    unfold F_X4_layNext FB_X4_layNext
    by_cases c : t < b
    · refine br1 (nI_lt c (by omega)) (br1 (nI_lt (by omega) (by omega)) (f_bits (by omega) ?_))
      rw [nI_1]
      refine f_bits (by omega) (fun x7 e7 => ⟨n + 1, ?_⟩)
      have hLd := LN_mono (show p.length + 1 ≤ n by omega)
      have ew : x7 = nI (blk (dkM n code) (byM n code) p.length (List.range p.length)) := by
        have e2 : ((2 : Int32) <<< (nI p.length &&& 31)) - 1 = nI (2 ^ (p.length + 1) - 1) := by
          have : (2 : Int32) <<< (nI p.length &&& 31) = nI (2 * 2 ^ p.length) := ni_shl 2 (by omega)
          rw [this, show 2 * 2 ^ p.length = 2 ^ (p.length + 1) by rw [Nat.pow_succ, Nat.mul_comm]]
          exact ni_sub (b := 1) (Nat.one_le_two_pow)
        rw [e7, ni_sub hLd, ni_shr (by omega) (by omega), e2, ni_and, Nat.and_two_pow_sub_one_eq_mod, wanted_blk hn hc (by omega)]
      subst ew
      have bl : ∀ w, blk E C w p < 64 := fun w => Nat.lt_of_lt_of_le (blk_lt E C w p) (show _ ≤ 2 ^ 6 from Nat.pow_le_pow_right (by decide) (by omega))
      have main : ∀ j v b', v + j = n → b' ≤ 16 → b' = mnL (fun l => cP (dkM n code) E (byM n code) C l n 0 0) ((List.range v).flatMap (fun v => if u.testBit v then [] else lv n k (p ++ [v]) (u ||| 2 ^ v))) b → F_X4_layNext_63 (F_X4_layNext fu) (nI code) (nI n) (nI n) fans post (j + 1) (nI p.length) (nI u) (nI t) (lN (lanes n (fun v => blk E C v p))) (nI (blk (dkM n code) (byM n code) p.length (List.range p.length))) (nI v) (nI b') := by
        intro j
        induction j with
        | zero =>
          intro v b' hv hb16 hb'
          have : v = n := by omega
          subst this
          unfold F_X4_layNext_63
          refine br1 (nI_le (Nat.le_refl _) (by omega)) ?_
          rw [hb']
          exact K
        | succ j ihj =>
          intro v b' hv hb16 hb'
          have step : ∀ b2, b2 = mnL (fun l => cP (dkM n code) E (byM n code) C l n 0 0) (if u.testBit v then [] else lv n k (p ++ [v]) (u ||| 2 ^ v)) b' → F_X4_layNext_63 (F_X4_layNext fu) (nI code) (nI n) (nI n) fans post (j + 1) (nI p.length) (nI u) (nI t) (lN (lanes n (fun v => blk E C v p))) (nI (blk (dkM n code) (byM n code) p.length (List.range p.length))) (nI v + 1) (nI b2) := by
            intro b2 h2
            rw [nI_1]
            refine ihj (v + 1) b2 (by omega) (by rw [h2]; exact Nat.le_trans (mnL_le _ _ _) hb16) ?_
            rw [List.range_succ, List.flatMap_append, mnL_app, ← hb', h2]
            simp
          have hget : ∀ l ∈ lv n k (p ++ [v]) (u ||| 2 ^ v), l.getD p.length 0 = v ∧ ∀ i, i < p.length → l.getD i 0 = p.getD i 0 := by
            intro l hl2
            refine ⟨?_, fun i hi => ?_⟩
            · rw [lv_get k _ _ l hl2 p.length (by simp)]
              simp [List.getD_eq_getElem?_getD]
            · rw [lv_get k _ _ l hl2 i (by simp; omega)]
              simp [List.getD_eq_getElem?_getD, List.getElem?_append_left hi]
          obtain ⟨x1, x2, x3⟩ := xB_facts (dkM n code) E (byM n code) C p.length v p p.length (Nat.le_refl _)
          have ex : xB (dkM n code) E (byM n code) C p.length v p p.length = blk (dkM n code) (byM n code) p.length (List.range p.length) ^^^ blk E C v p := by unfold xB; rw [List.take_length]
          have hx64 : xB (dkM n code) E (byM n code) C p.length v p p.length < 64 := Nat.lt_of_lt_of_le x1 (show _ ≤ 2 ^ 6 from Nat.pow_le_pow_right (by decide) (by omega))
          unfold F_X4_layNext_63 F_X4_layNext_99 F_X4_layNext_132
          refine br2 (nI_ge (by omega) (by omega)) (f_block (by omega) hn bl rfl rfl ?_)
          rw [ni_xor, ← ex, ni_shr (by omega) (by omega), x2]
          have cstv : u.testBit v = false → ∀ l ∈ lv n k (p ++ [v]) (u ||| 2 ^ v), cP (dkM n code) E (byM n code) C l n 0 0 = if (dkM n code).testBit p.length = E.testBit v then cP (dkM n code) E (byM n code) C l k (p.length + 1) (t + sX (byM n code) C p.length v p p.length) else 99 := by
            intro huv l hl2
            have hl3 : l ∈ lv n (k + 1) p u := by
              rw [lv, List.mem_flatMap]
              exact ⟨v, List.mem_range.mpr (by omega), by rw [huv, if_neg (by decide)]; exact hl2⟩
            obtain ⟨g1, g2⟩ := hget l hl2
            rw [hl l hl3, cP, g1, sX_congr _ _ _ _ p.length g2]
          by_cases cd : (dkM n code).testBit p.length = E.testBit v
          · have hz : ((dkM n code).testBit p.length ^^ E.testBit v).toNat = 0 := by rw [cd]; cases E.testBit v <;> rfl
            rw [hz] at x2 x3 ⊢
            refine br4 rfl (br2 (by decide) ⟨fun g => ?_, fun g => ?_⟩)
            · have : u.testBit v = true := by
                cases e : u.testBit v with
                | true => rfl
                | false => exact absurd ((ni_b0 (show u < 2 ^ 31 from Nat.lt_of_lt_of_le hu (Nat.pow_le_pow_right (by decide) (by omega))) (show v < 32 by omega)).mpr e) g
              exact step b' (by rw [this]; rfl)
            · have huv := (ni_b0 (show u < 2 ^ 31 from Nat.lt_of_lt_of_le hu (Nat.pow_le_pow_right (by decide) (by omega))) (show v < 32 by omega)).mp g
              refine f_bitCount (Nat.lt_trans hx64 (by decide)) ?_
              have hpc : popc (xB (dkM n code) E (byM n code) C p.length v p p.length) 24 = sX (byM n code) C p.length v p p.length := by
                have := popc_big x1 (24 - (p.length + 1))
                rw [show p.length + 1 + (24 - (p.length + 1)) = 24 by omega] at this
                rw [this, x3, Nat.zero_add]
              have hsx := sX_le (byM n code) C p.length v p p.length
              rw [hpc, nI_add]
              unfold F_X4_lay
              refine f_fan (by omega) ?_
              have e2 : nI u ||| ((1 : Int32) <<< (nI v &&& 31)) = nI (u ||| 2 ^ v) := by rw [ni_1shl (by omega), ni_or]
              rw [lanes_step hn (by omega) (by omega) hsym (hfan v (by omega)), e2, nI_1, show p.length + 1 = (p ++ [v]).length by simp]
              refine ih fu (by omega) (p ++ [v]) (u ||| 2 ^ v) _ b' _ (by simp; omega) (Nat.or_lt_two_pow hu (Nat.pow_lt_pow_right (by decide) (by omega))) (by simp; omega) hb16 (fun l hl2 => ?_) ?_
              · rw [cstv huv l hl2, if_pos cd]
                simp
              · exact step _ (by rw [huv]; rfl)
          · have hz : ((dkM n code).testBit p.length ^^ E.testBit v).toNat = 1 := by
              cases e1 : (dkM n code).testBit p.length <;> cases e2 : E.testBit v <;> rw [e1, e2] at cd <;> first | rfl | exact absurd rfl cd
            rw [hz]
            refine br3 (by decide) (br1 rfl (step b' ?_))
            cases huv : u.testBit v with
            | true => rfl
            | false =>
              show b' = mnL _ (lv n k (p ++ [v]) (u ||| 2 ^ v)) b'
              rw [mnL_far]
              intro l hl2
              show b' ≤ cP (dkM n code) E (byM n code) C l n 0 0
              rw [cstv huv l hl2, if_neg cd]
              omega
      exact main n 0 b (by omega) hb rfl
    · refine br2 (nI_nlt (by omega) (by omega)) ?_
      rw [mnL_far] at K
      · exact K
      · intro l hl2
        show b ≤ cP (dkM n code) E (byM n code) C l n 0 0
        rw [hl l hl2]
        exact Nat.le_trans (by omega) (cP_ge (k + 1) p.length t (by omega))
/-! the reference's way -/
theorem f_partedBy {n D E : Nat} {A C : Nat → Nat} {l : List Nat} (hn : n ≤ 6) {dark nodes : Int32} {by' held o : Nat → Int32} (hR : RG n E C dark nodes by') (hD : D < 2 ^ 31) (hH : ∀ v, v < n → held v = nI (A v) ∧ A v < 2 ^ 31) (ho : OrdA o l n) {post : Int32 → Prop} (K : post (nI (cP D E A C l n 0 0))) : F_X12_partedBy dark (nI D) nodes by' held o post := by
  obtain ⟨r1, r2, r3, r4⟩ := hR
  subst r1 r2
  unfold F_X12_partedBy
  refine ⟨n + 1, ?_⟩
  have main : ∀ j a t, a + j = n → t ≤ 6 * a → post (nI (cP D E A C l j a t)) → F_X12_partedBy_4 (nI E) (nI D) (nI n) by' held o post (j + 1) (nI t) (nI a) := by
    intro j
    induction j with
    | zero =>
      intro a t ha ht K
      unfold F_X12_partedBy_4
      exact br1 (nI_le (by omega) (by omega)) K
    | succ j ih =>
      intro a t ha ht K
      obtain ⟨oa, la⟩ := ho.2 a (by omega)
      obtain ⟨ha1, ha2⟩ := hH a (by omega)
      obtain ⟨hv1, hv2⟩ := r4 (l.getD a 0) la
      unfold F_X12_partedBy_4
      refine br2 (nI_ge (by omega) (by omega)) (f_holds hD (by omega) ⟨vp_in_nI (by omega) (by decide), ?_⟩)
      rw [nI_clamp (by omega), oa]
      refine f_holds r3 (by omega) ?_
      rw [cP] at K
      by_cases c : D.testBit a = E.testBit (l.getD a 0)
      · rw [if_pos c] at K
        refine br1 (by rw [c]) ⟨a + 1, ?_⟩
        have inner : ∀ i b, b + i = a → F_X12_partedBy_41 (nI E) (nI D) (nI n) by' held o post (F_X12_partedBy_4 (nI E) (nI D) (nI n) by' held o post (j + 1)) (i + 1) (nI (t + sX A C a (l.getD a 0) l b)) (nI a) (nI b) := by
          intro i
          induction i with
          | zero =>
            intro b hb
            have : b = a := by omega
            subst this
            have hs := sX_le A C b (l.getD b 0) l b
            unfold F_X12_partedBy_41
            refine br1 (nI_le (Nat.le_refl _) (by omega)) ?_
            rw [nI_1]
            exact ih (b + 1) _ (by omega) (by omega) K
          | succ i ihi =>
            intro b hb
            have ihi := ihi (b + 1) (by omega)
            obtain ⟨ob, lb⟩ := ho.2 b (by omega)
            unfold F_X12_partedBy_41 F_X12_partedBy_85
            refine br2 (nI_ge (by omega) (by omega)) ⟨vp_in_nI (by omega) (by decide), ?_⟩
            rw [nI_clamp (by omega), ha1]
            refine f_holds ha2 (by omega) ⟨vp_in_nI (by omega) (by decide), ?_⟩
            rw [nI_clamp (by omega), oa]
            refine ⟨vp_in_nI (by omega) (by decide), vp_in_nI (by omega) (by decide), ?_⟩
            rw [nI_clamp (by omega), ob, hv1]
            refine f_holds hv2 (by omega) ?_
            rw [nI_1]
            rw [sX, ← Nat.add_assoc] at ihi
            cases e1 : (A a).testBit b <;> cases e2 : (C (l.getD a 0)).testBit (l.getD b 0) <;> rw [e1, e2] at ihi
            · exact br4 rfl (by rw [Int32.add_zero, nI_1]; exact ihi)
            · exact br3 (by decide) (by rw [nI_1]; exact ihi)
            · exact br3 (by decide) (by rw [nI_1]; exact ihi)
            · exact br4 rfl (by rw [Int32.add_zero, nI_1]; exact ihi)
        exact inner a 0 (by omega)
      · rw [if_neg c] at K
        refine br2 (fun g => c ?_) K
        cases e1 : D.testBit a <;> cases e2 : E.testBit (l.getD a 0) <;> rw [e1, e2] at g
        · exact absurd g (by decide)
        · exact absurd g (by decide)
  exact main n 0 0 (by omega) (by omega) K
theorem cP_max {n D E : Nat} {A C : Nat → Nat} {l : List Nat} : ∀ j a t, a + j ≤ 6 → cP D E A C l j a t ≤ 99 + t + 6 * j
  | 0, a, t, _ => by rw [cP]; omega
  | j + 1, a, t, h => by
    have := sX_le A C a (l.getD a 0) l a
    have := cP_max (n := n) (D := D) (E := E) (A := A) (C := C) (l := l) j (a + 1) (t + sX A C a (l.getD a 0) l a) (by omega)
    rw [cP]
    split
    · omega
    · omega
theorem cP_hi {n D E : Nat} {A C : Nat → Nat} {l : List Nat} (hn : n ≤ 6) : cP D E A C l n 0 0 ≤ 200 := by
  have := cP_max (n := n) (D := D) (E := E) (A := A) (C := C) (l := l) n 0 0 (by omega)
  omega
theorem ap_44 {n D E : Nat} {A C : Nat → Nat} {forms many w : Nat → Int32} (hn : n ≤ 6) (h1 : 1 ≤ n) {dark th : Int32} {by' held : Nat → Int32} (hR : RG n E C dark (nI n) by') (hD : D < 2 ^ 31) (hH : ∀ v, v < n → held v = nI (A v) ∧ A v < 2 ^ 31) {post : Int32 → Int32 → Int32 → Int32 → Int32 → (Nat → Int32) → (Nat → Int32) → (Nat → Int32) → Prop} (K : ∀ order, post (if mnL (fun l => cP D E A C l n 0 0) (lex n) 99 = 99 then -1 else nI (mnL (fun l => cP D E A C l n 0 0) (lex n) 99)) dark (nI D) (nI n) th by' held order) : ∀ (L : List (List Nat)) (l : List Nat) (Xs : List (List Nat)) (o : Nat → Int32), lex n = Xs ++ l :: L → chn n (l :: L) = true → OrdA o l n → F_X12_apart_44 forms many w post (L.length + 1) (nI (mnL (fun l => cP D E A C l n 0 0) Xs 99)) dark (nI D) (nI n) th by' held o := by
  have hmn : ∀ (Xs : List (List Nat)) (l : List Nat), (if nI (cP D E A C l n 0 0) < nI (mnL (fun l => cP D E A C l n 0 0) Xs 99) then nI (cP D E A C l n 0 0) else nI (mnL (fun l => cP D E A C l n 0 0) Xs 99)) = nI (mnL (fun l => cP D E A C l n 0 0) (Xs ++ [l]) 99) := by
    intro Xs l
    have hm99 := mnL_le (fun l => cP D E A C l n 0 0) Xs 99
    have hcl := cP_hi (D := D) (E := E) (A := A) (C := C) (l := l) hn
    rw [nI_min (by omega) (by omega), mnL_app]
    rfl
  intro L
  induction L with
  | nil =>
    intro l Xs o hlex hch ho
    unfold F_X12_apart_44 F_X12_apart_75
    refine f_partedBy hn hR hD hH ho ?_
    rw [hmn Xs l, ← hlex]
    have hm := mnL_le (fun l => cP D E A C l n 0 0) (lex n) 99
    refine f_nextOrder hn h1 ho (fun _ => br4 rfl ?_) (fun l' o' e _ => ?_)
    · have hK := K o
      by_cases c : mnL (fun l => cP D E A C l n 0 0) (lex n) 99 = 99
      · rw [if_pos c] at hK
        exact br4 (by rw [c]; rfl) hK
      · rw [if_neg c] at hK
        exact br3 (fun g => c (ni_inj (b := 99) (by omega) (by decide) g)) hK
    · simp [chn] at hch
      rw [hch] at e
      simp at e
  | cons l2 L ih =>
    intro l Xs o hlex hch ho
    unfold F_X12_apart_44
    refine f_partedBy hn hR hD hH ho ?_
    rw [hmn Xs l]
    simp only [chn, Bool.and_eq_true, beq_iff_eq] at hch
    refine f_nextOrder hn h1 ho (fun e => ?_) (fun l' o' e ho' => ?_)
    · rw [hch.1] at e; simp at e
    · rw [hch.1] at e
      simp at e
      subst e
      exact br3 (by decide) (ih l2 (Xs ++ [l]) o' (by rw [hlex]; simp) hch.2 ho')
theorem f_holdsNet {n : Nat} (hn : n ≤ 6) {dark hd : Int32} {by' held : Nat → Int32} {post : Int32 → (Nat → Int32) → Prop} (K : ∀ h, (∀ v, v < n → h v = by' v) → post dark h) : F_X12_holdsNet dark (nI n) by' hd held post := by
  unfold F_X12_holdsNet
  refine ⟨n + 1, ?_⟩
  have main : ∀ j i (h : Nat → Int32), i + j = n → (∀ v, v < i → h v = by' v) → F_X12_holdsNet_2 dark (nI n) by' post (j + 1) (nI i) hd h := by
    intro j
    induction j with
    | zero =>
      intro i h hi hh
      unfold F_X12_holdsNet_2
      exact br1 (nI_le (by omega) (by omega)) (K h (fun v hv => hh v (by omega)))
    | succ j ih =>
      intro i h hi hh
      unfold F_X12_holdsNet_2
      refine br2 (nI_ge (by omega) (by omega)) ⟨vp_in_nI (by omega) (by decide), vp_in_nI (by omega) (by decide), ?_⟩
      rw [nI_clamp (by omega), nI_1]
      refine ih (i + 1) _ (by omega) (fun v hv => ?_)
      by_cases e : v = i
      · subst e; rw [upd_in]
      · rw [upd_out e]; exact hh v (by omega)
  exact main n 0 held (by omega) (fun v hv => absurd hv (Nat.not_lt_zero _))
def triN : Nat → Nat
  | 0 => 0
  | a + 1 => triN a + a
theorem cP_ok {D E : Nat} {A C : Nat → Nat} {l : List Nat} : ∀ j a t, (∀ i, a ≤ i → i < a + j → D.testBit i = E.testBit (l.getD i 0)) → t ≤ triN a → cP D E A C l j a t ≤ triN (a + j)
  | 0, a, t, _, h => h
  | j + 1, a, t, hc, h => by
    have h2 := sX_le A C a (l.getD a 0) l a
    rw [cP, if_pos (hc a (Nat.le_refl _) (by omega)), show a + (j + 1) = a + 1 + j by omega]
    refine cP_ok j (a + 1) _ (fun i h1 h2 => hc i (by omega) (by omega)) ?_
    rw [triN]
    omega
theorem cP_no {D E : Nat} {A C : Nat → Nat} {l : List Nat} : ∀ j a t i, a ≤ i → i < a + j → D.testBit i ≠ E.testBit (l.getD i 0) → cP D E A C l j a t = 99
  | 0, a, t, i, h1, h2, _ => by omega
  | j + 1, a, t, i, h1, h2, h => by
    rw [cP]
    split
    · rename_i g
      have : i ≠ a := fun e => h (by rw [e]; exact g)
      exact cP_no j (a + 1) _ i (by omega) (by omega) h
    · rfl
theorem triN_6 : ∀ n, n ≤ 6 → triN (0 + n) ≤ 15 := by decide
def dmM (n D E : Nat) (l : List Nat) : Bool := (List.range n).all (fun a => D.testBit a == E.testBit (l.getD a 0))
theorem dm_all : ∀ n, n ≤ 5 → (List.range (2 ^ n)).all (fun D => (List.range (2 ^ n)).all (fun E => (popc D 6 == popc E 6) == (lex n).any (dmM n D E))) = true := by decide +kernel
theorem ac_all : ∀ dk n, n ≤ 6 → (CT n dk).all (fun c => (popc (c &&& acM n n) 24 == popc (dkM n c) 6) && (decide (n ≤ 5) || dkM n c == 0)) = true := by decide +kernel
theorem dm_iff {n D E : Nat} (hn : n ≤ 6) (hD : D < 2 ^ n) (hE : E < 2 ^ n) (h6 : n ≤ 5 ∨ (D = 0 ∧ E = 0)) : popc D 6 = popc E 6 ↔ ∃ l ∈ lex n, ∀ i, i < n → D.testBit i = E.testBit (l.getD i 0) := by
  rcases h6 with h | ⟨rfl, rfl⟩
  · have g := List.all_eq_true.mp (List.all_eq_true.mp (dm_all n h) D (List.mem_range.mpr hD)) E (List.mem_range.mpr hE)
    have g := beq_iff_eq.mp g
    have q : (lex n).any (dmM n D E) = true ↔ ∃ l ∈ lex n, ∀ i, i < n → D.testBit i = E.testBit (l.getD i 0) := by
      rw [List.any_eq_true]
      constructor
      · rintro ⟨l, hl, h⟩
        exact ⟨l, hl, fun i hi => beq_iff_eq.mp (List.all_eq_true.mp h i (List.mem_range.mpr hi))⟩
      · rintro ⟨l, hl, h⟩
        exact ⟨l, hl, List.all_eq_true.mpr (fun i hi => beq_iff_eq.mpr (h i (List.mem_range.mp hi)))⟩
    rw [← q, ← g, beq_iff_eq]
  · obtain ⟨L, hL⟩ := lex_cons n hn
    refine ⟨fun _ => ⟨List.range n, by rw [hL]; simp, fun i _ => ?_⟩, fun _ => rfl⟩
    rw [Nat.zero_testBit, Nat.zero_testBit]
theorem ap_same {n c d : Nat} {dk : Bool} (hn : n ≤ 6) (hc : c ∈ CT n dk) (hd : d ∈ CT n dk) : (popc (c &&& acM n n) 24 = popc (d &&& acM n n) 24 → mnL (fun l => cP (dkM n c) (dkM n d) (byM n c) (byM n d) l n 0 0) (lex n) 99 ≠ 99 ∧ mnL (fun l => cP (dkM n c) (dkM n d) (byM n c) (byM n d) l n 0 0) (lex n) 16 = mnL (fun l => cP (dkM n c) (dkM n d) (byM n c) (byM n d) l n 0 0) (lex n) 99) ∧ (popc (c &&& acM n n) 24 ≠ popc (d &&& acM n n) 24 → mnL (fun l => cP (dkM n c) (dkM n d) (byM n c) (byM n d) l n 0 0) (lex n) 99 = 99) := by
  have f1 := List.all_eq_true.mp (ac_all dk n hn) c hc
  have f2 := List.all_eq_true.mp (ac_all dk n hn) d hd
  rw [Bool.and_eq_true, beq_iff_eq, Bool.or_eq_true, decide_eq_true_iff, beq_iff_eq] at f1 f2
  have h6 : n ≤ 5 ∨ (dkM n c = 0 ∧ dkM n d = 0) := by
    rcases f1.2 with h | h
    · exact Or.inl h
    · rcases f2.2 with g | g
      · exact Or.inl g
      · exact Or.inr ⟨h, g⟩
  have key := dm_iff hn (mask_lt (dkb n c) n) (mask_lt (dkb n d) n) h6
  rw [f1.1, f2.1]
  constructor
  · intro h
    obtain ⟨l, hl, hm⟩ := key.mp h
    have h15 : cP (dkM n c) (dkM n d) (byM n c) (byM n d) l n 0 0 ≤ 15 := Nat.le_trans (cP_ok n 0 0 (fun i _ hi => hm i (by omega)) (Nat.le_refl _)) (triN_6 n hn)
    have hb := mnL_lb (fun l => cP (dkM n c) (dkM n d) (byM n c) (byM n d) l n 0 0) (lex n) 99 l hl
    have hb : mnL (fun l => cP (dkM n c) (dkM n d) (byM n c) (byM n d) l n 0 0) (lex n) 99 ≤ 15 := Nat.le_trans hb h15
    refine ⟨by omega, ?_⟩
    have := mnL_min (fun l => cP (dkM n c) (dkM n d) (byM n c) (byM n d) l n 0 0) (lex n) 99 16
    rw [show min 16 99 = 16 by decide] at this
    rw [this]
    omega
  · intro h
    refine mnL_far _ _ _ (fun l hl => ?_)
    have : ¬ ∀ i, i < n → (dkM n c).testBit i = (dkM n d).testBit (l.getD i 0) := fun g => h (key.mpr ⟨l, hl, g⟩)
    have : ∃ i, i < n ∧ (dkM n c).testBit i ≠ (dkM n d).testBit (l.getD i 0) := by
      refine Classical.byContradiction (fun g => this (fun i hi => ?_))
      exact Classical.byContradiction (fun g2 => g ⟨i, hi, g2⟩)
    obtain ⟨i, hi, g⟩ := this
    show 99 ≤ cP (dkM n c) (dkM n d) (byM n c) (byM n d) l n 0 0
    rw [cP_no n 0 0 i (by omega) (by omega) g]
    exact Nat.le_refl _
theorem f_fewestTurns {n c d : Nat} {dk : Bool} (hn : n ≤ 6) (h1 : 1 ≤ n) (hc : c ∈ CT n dk) (hd : d ∈ CT n dk) (hcl : c < 2 ^ LN n) (hdl : d < 2 ^ LN n) {be co : Int32} {kc : Int64} {kd kn : Int32} {kf : Nat → Int64} {kr : Nat → Int32} {jc : Int64} {jd jn : Int32} {jf : Nat → Int64} {jr : Nat → Int32} {post : Int32 → Int32 → Int32 → Int64 → Int32 → Int32 → (Nat → Int64) → (Nat → Int32) → Int64 → Int32 → Int32 → (Nat → Int64) → (Nat → Int32) → Prop} (K : ∀ be co kc kd kn kf kr jc jd jn jf jr, post (if mnL (fun l => cP (dkM n c) (dkM n d) (byM n c) (byM n d) l n 0 0) (lex n) 99 = 99 then -1 else nI (mnL (fun l => cP (dkM n c) (dkM n d) (byM n c) (byM n d) l n 0 0) (lex n) 99)) be co kc kd kn kf kr jc jd jn jf jr) : F_X4_fewestTurns be co kc kd kn kf kr jc jd jn jf jr (nI n) (nI c) (nI d) post := by
  have hL6 := LN_mono hn
  have h6 : LN 6 = 21 := rfl
  have hc21 : c < 2 ^ 21 := Nat.lt_of_lt_of_le hcl (Nat.pow_le_pow_right (by decide) (by omega))
  have hd21 : d < 2 ^ 21 := Nat.lt_of_lt_of_le hdl (Nat.pow_le_pow_right (by decide) (by omega))
  obtain ⟨s1, s2⟩ := ap_same hn hc hd
  have p1 := popc_le (c &&& acM n n) 24
  have p2 := popc_le (d &&& acM n n) 24
  unfold F_X4_fewestTurns
  refine f_darkNodes hn (by omega) (f_darkNodes hn (by omega) ?_)
  by_cases e : popc (c &&& acM n n) 24 = popc (d &&& acM n n) 24
  · obtain ⟨g1, g2⟩ := s1 e
    refine br1 (by rw [e]) (f_draw hn hc21 (fun kc kd kn kf kr hS => f_draw hn hd21 (fun jc jd jn jf jr hT => ?_)))
    have e1 := hS.2.2.1
    have e2 := hT.2.2.1
    have e3 := sk_lanes hT
    subst e1 e2 e3
    refine lay_ok (E := dkM n d) (C := byM n d) hn hcl (fun v j hv hj => byM_sym n d v j hv hj) (fun v hv => (hT.2.2.2 v hv).2) n 10 (by omega) [] 0 0 16 _ (by simp) (Nat.pow_pos (by decide)) (by simp) (by decide) (fun l _ => rfl) ?_
    have hK := K (nI (mnL (fun l => cP (dkM n c) (dkM n d) (byM n c) (byM n d) l n 0 0) (lex n) 16)) (nI c) kc kd (nI n) kf kr (lN (lanes n (fun v => blk (dkM n d) (byM n d) v []))) jd (nI n) jf jr
    rw [if_neg g1, ← g2] at hK
    exact hK
  · have hK := K be co kc kd kn kf kr jc jd jn jf jr
    rw [if_pos (s2 e)] at hK
    exact br2 (fun g => e (ni_inj (by omega) (by omega) g)) hK
theorem lc17 (xs : Nat → Int32) (L : Nat) (hL3 : L ≤ 3072) : LC17 xs L IInv := by
  unfold LC17
  intro x4 m_begin m_dark m_end m_faultAt m_form m_hasImage m_heldDark m_lasts m_nodes m_pairs m_point m_symmetries m_taped m_thrown m_toldEdges m_toldForm m_toldNodes m_toldSymmetries m_writtenMany m_by m_decks m_draft m_firstOrder m_five m_forms m_held m_image m_many m_order m_seen m_tape m_toldOrder m_world m_written o x_hasImage x_cycleSums_edges x_cycleSums_hasDark x_cycleSums_parts x_cycleSums_ways x_decks x_draft_bannedCircles x_draft_endLines x_draft_endsJoined x_draft_fewestEdges x_draft_hasDark x_draft_least x_draft_most x_draft_mostEdges x_draft_patterns x_draft_ruleLines x_draft_size x_draft_unlike x_draft_words x_draft_patternCodes x_draft_patternNodes x_forms_allBits x_forms_firstOrder x_forms_isBeaten x_forms_isStudy x_forms_isTest x_forms_least x_forms_nodes x_forms_order x_forms_seen x_forms_stillEdges x_forms_symmetries x_forms_sketch_colours x_forms_sketch_darks x_forms_sketch_nodes x_forms_sketch_fans x_forms_sketch_near x_keptLevels_total x_keptLevels_codes x_keptLevels_firsts x_keptRules_bannedCircles x_keptRules_endLines x_keptRules_endsJoined x_keptRules_fewestEdges x_keptRules_hasDark x_keptRules_least x_keptRules_most x_keptRules_mostEdges x_keptRules_patterns x_keptRules_ruleLines x_keptRules_size x_keptRules_unlike x_keptRules_words x_keptRules_patternCodes x_keptRules_patternNodes x_keptWalkers_allParts x_keptWalkers_depths x_keptWalkers_lists x_keptWalkers_ownParts x_levels_total x_levels_codes x_levels_firsts x_match_best x_match_code x_match_one_colours x_match_one_darks x_match_one_nodes x_match_one_fans x_match_one_near x_match_two_colours x_match_two_darks x_match_two_nodes x_match_two_fans x_match_two_near x_page_length x_page_bytes x_rules_bannedCircles x_rules_endLines x_rules_endsJoined x_rules_fewestEdges x_rules_hasDark x_rules_least x_rules_most x_rules_mostEdges x_rules_patterns x_rules_ruleLines x_rules_size x_rules_unlike x_rules_words x_rules_patternCodes x_rules_patternNodes x_sketch_colours x_sketch_darks x_sketch_nodes x_sketch_fans x_sketch_near x_tape_begun x_tape_length x_tape_position x_tape_wrong x_tape_bytes x_texts_code x_texts_nodes x_toldForms_allBits x_toldForms_firstOrder x_toldForms_isBeaten x_toldForms_isStudy x_toldForms_isTest x_toldForms_least x_toldForms_nodes x_toldForms_order x_toldForms_seen x_toldForms_stillEdges x_toldForms_symmetries x_toldForms_sketch_colours x_toldForms_sketch_darks x_toldForms_sketch_nodes x_toldForms_sketch_fans x_toldForms_sketch_near x_walkers_allParts x_walkers_depths x_walkers_lists x_walkers_ownParts hx0 hxL hI
  obtain ⟨k, hT, hK, hW, hG, hD, hO, hP⟩ := hI
  obtain ⟨hk, hw, ⟨q1, q2, q3, q4, q5, q6, q7, q8, q9, q10, q11, q12, hp⟩, hL, hU⟩ := hK
  subst q1 q2 q3 q4 q5 q6 q7 q8 q9 q10 q11 q12
  have hsz := size_le hk
  have a1 := arg_in hx0 hxL (by omega) (j := 1) (by omega)
  have a2 := arg_in hx0 hxL (by omega) (j := 2) (by omega)
  have a3 := arg_in hx0 hxL (by omega) (j := 3) (by omega)
  have a4 := arg_in hx0 hxL (by omega) (j := 4) (by omega)
  have a5 := arg_in hx0 hxL (by omega) (j := 5) (by omega)
  have o0 := vp_in_nI (n := 0) (N := 1) (by decide) (by decide)
  
  unfold F_law_c17 F_L_apart F_law_c17_1482
  refine ⟨a1, a2, a3, ?_⟩
  generalize xs (x4 + 1).toNatClampNeg = p1
  generalize xs (x4 + 2).toNatClampNeg = p2
  generalize xs (x4 + 3).toNatClampNeg = p3
  unfold F_X11_apart F_X12_apart F_X12_apart_18 F_X12_thrown
  rcases net_q hk p1 p2 with h | ⟨n, i, h1, h2, rfl, hi, rfl⟩
  · exact x_needNet_n hk hL h ⟨rfl, a1, a2, a3, f_noNet_n hk hw hU h (br3 (by decide) (law_fin rfl (fun e => absurd e (by decide)) ⟨rfl, k, hT, ⟨hk, hw, ⟨rfl, rfl, rfl, rfl, rfl, rfl, rfl, rfl, rfl, rfl, rfl, rfl, hp⟩, hL, hU⟩, hW, hG, hD, hO, hP⟩))⟩
  · refine x_needNet_y hk hL h1 h2 hi ?_
    have n6 : n ≤ 6 := by omega
    rcases net_q hk (nI n) p3 with h | ⟨m, j, m1, m2, em, hj, rfl⟩
    · exact x_needNet_n hk hL h ⟨rfl, a1, a2, a3, f_noNet_y hk hw hU h1 h2 hi (br4 rfl (f_noNet_n hk hw hU h (br2 (by decide) (law_fin rfl (fun e => absurd e (by decide)) ⟨rfl, k, hT, ⟨hk, hw, ⟨rfl, rfl, rfl, rfl, rfl, rfl, rfl, rfl, rfl, rfl, rfl, rfl, hp⟩, hL, hU⟩, hW, hG, hD, hO, hP⟩))))⟩
    · have em := ni_inj (by omega) (by omega) em
      subst em
      have hc := lvl_get hk h1 h2 hi
      have hd := lvl_get hk h1 h2 hj
      refine x_needNet_y hk hL h1 h2 hj (f_fewestTurns n6 h1 hc.1 hd.1 hc.2.1 hd.2.1 (fun be co kc kd kn kf kr jc jd jn jf jr => ⟨o0, a1, a2, a3, f_noNet_y hk hw hU h1 h2 hi (br4 rfl (f_noNet_y hk hw hU h1 h2 hj (br1 rfl (f_takes hk hU h1 h2 hi (fun dark nodes by' hR => ?_)))))⟩))
      obtain ⟨q1, q2, q3, q4⟩ := hR
      subst q1 q2
      refine f_holdsNet n6 (fun held hh => f_takes hk hU h1 h2 hj (fun dark2 nodes2 by2 hR2 => ?_))
      have q5 := hR2.2.1
      subst q5
      obtain ⟨L0, hL0⟩ := lex_cons n n6
      refine f_beginsOrders n6 (fun o' ho' => ⟨L0.length + 1, ap_44 n6 h1 hR2 q3 (fun v hv => ⟨(hh v hv).trans (q4 v hv).1, (q4 v hv).2⟩) (fun order => ?_) L0 (List.range n) [] o' (by rw [hL0]; rfl) (by rw [← hL0]; exact chn_lex n n6) ho'⟩)
      exact law_fin rfl (fun _ => updL_in) ⟨rfl, k, hT, ⟨hk, hw, ⟨rfl, rfl, rfl, rfl, rfl, rfl, rfl, rfl, rfl, rfl, rfl, rfl, hp⟩, hL, hU⟩, hW, hG, hD, hO, hP⟩
