/-! the search: all orders are looked at, but those that cannot have the least code -/
def lanes (n : Nat) (f : Nat → Nat) : Nat := match n with
  | 0 => 0
  | m + 1 => lanes m f + f m * 2 ^ (8 * m)
theorem lanes_lt {f : Nat → Nat} (hf : ∀ v, f v < 256) : ∀ n, lanes n f < 2 ^ (8 * n)
  | 0 => by simp [lanes]
  | n + 1 => by
    have ih := lanes_lt hf n
    have h := hf n
    rw [lanes]
    have e : 2 ^ (8 * (n + 1)) = 256 * 2 ^ (8 * n) := by rw [show 8 * (n + 1) = 8 + 8 * n by omega, Nat.pow_add]
    rw [e]
    have : (f n + 1) * 2 ^ (8 * n) ≤ 256 * 2 ^ (8 * n) := Nat.mul_le_mul_right _ h
    rw [Nat.add_mul] at this
    omega
theorem lanes_get {f : Nat → Nat} (hf : ∀ v, f v < 256) {v : Nat} : ∀ n, v < n → lanes n f / 2 ^ (8 * v) % 256 = f v
  | 0, h => absurd h (Nat.not_lt_zero _)
  | n + 1, h => by
    rw [lanes]
    have hl := lanes_lt hf n
    rcases Nat.lt_succ_iff_lt_or_eq.mp h with g | rfl
    · have ih := lanes_get hf n g
      have e : f n * 2 ^ (8 * n) = (f n * 2 ^ (8 * (n - v) - 8)) * 256 * 2 ^ (8 * v) := by
        rw [Nat.mul_assoc, Nat.mul_assoc, show 256 = 2 ^ 8 from rfl, ← Nat.pow_add, ← Nat.pow_add]
        congr 2; omega
      rw [e, Nat.add_mul_div_right _ _ (Nat.pow_pos (by decide)), Nat.add_mul_mod_self_right, ih]
    · rw [Nat.add_mul_div_right _ _ (Nat.pow_pos (by decide)), Nat.div_eq_of_lt hl, Nat.zero_add, Nat.mod_eq_of_lt (hf v)]
theorem or_low {x y a b k : Nat} (hx : x < 2 ^ k) (hy : y < 2 ^ k) : (x + a * 2 ^ k) ||| (y + b * 2 ^ k) = (x ||| y) + (a ||| b) * 2 ^ k := by
  have h : ∀ z w, z < 2 ^ k → z + w * 2 ^ k = 2 ^ k * w ||| z := fun z w hz => by rw [Nat.add_comm, Nat.mul_comm, Nat.two_pow_add_eq_or_of_lt hz]
  rw [h x a hx, h y b hy, h _ _ (Nat.or_lt_two_pow hx hy)]
  apply Nat.eq_of_testBit_eq
  intro i
  simp only [Nat.testBit_or, Nat.testBit_two_pow_mul]
  cases decide (i ≥ k) <;> cases a.testBit (i - k) <;> cases b.testBit (i - k) <;> cases x.testBit i <;> cases y.testBit i <;> rfl
theorem or_bit (a : Nat) (b : Bool) : 2 * a ||| b.toNat = 2 * a + b.toNat := by
  have := Nat.two_pow_add_eq_or_of_lt (i := 1) (b := b.toNat) (bool_lt2 b) a
  simp at this
  exact this.symm
theorem lanes_shift {f : Nat → Nat} {g : Nat → Bool} (hf : ∀ v, f v < 128) : ∀ n, 2 * lanes n f ||| lanes n (fun v => (g v).toNat) = lanes n (fun v => 2 * f v + (g v).toNat)
  | 0 => by simp [lanes]
  | n + 1 => by
    have ih := lanes_shift (g := g) hf n
    rw [lanes, lanes, lanes, Nat.mul_add, ← Nat.mul_assoc]
    have h1 : 2 * lanes n f < 2 ^ (8 * n) := by
      have : ∀ m, 2 * lanes m f = lanes m (fun v => 2 * f v) := by
        intro m
        induction m with
        | zero => rfl
        | succ m ihm => rw [lanes, lanes, Nat.mul_add, ihm, Nat.mul_assoc]
      rw [this]
      exact lanes_lt (fun v => by have := hf v; show 2 * f v < 256; omega) n
    have h2 : lanes n (fun v => (g v).toNat) < 2 ^ (8 * n) := lanes_lt (fun v => by have := bool_lt2 (g v); show (g v).toNat < 256; omega) n
    rw [or_low h1 h2, ih, or_bit]
def unc (u : Nat) : Nat → Nat
  | 0 => 0
  | n + 1 => unc u n + (if u.testBit n then 0 else 1)
theorem unc_or {u w : Nat} : ∀ n, u.testBit w = false → unc (u ||| 2 ^ w) n + (if w < n then 1 else 0) = unc u n
  | 0, _ => rfl
  | n + 1, h => by
    have ih := unc_or n h
    rw [unc, unc, tb_or_pow]
    rcases Nat.lt_trichotomy w n with g | rfl | g
    · rw [if_pos g] at ih
      have e2 : decide (w = n) = false := decide_eq_false (by omega)
      rw [if_pos (show w < n + 1 by omega), e2]
      simp only [Bool.or_false]
      omega
    · rw [if_neg (by omega)] at ih
      simp [h] at ih ⊢
      exact ih
    · rw [if_neg (by omega)] at ih
      have e2 : decide (w = n) = false := decide_eq_false (by omega)
      rw [if_neg (show ¬ w < n + 1 by omega), e2]
      simp only [Bool.or_false]
      omega
theorem unc_ex {u : Nat} : ∀ n, 0 < unc u n → ∃ v, v < n ∧ u.testBit v = false
  | 0, h => absurd h (Nat.lt_irrefl _)
  | n + 1, h => by
    rw [unc] at h
    cases e : u.testBit n with
    | false => exact ⟨n, by omega, e⟩
    | true =>
      rw [if_pos e] at h
      obtain ⟨v, a, b⟩ := unc_ex n h
      exact ⟨v, by omega, b⟩
theorem lv_ne {n : Nat} : ∀ k p u, k ≤ unc u n → lv n k p u ≠ []
  | 0, p, u, _ => by simp [lv]
  | k + 1, p, u, h => by
    obtain ⟨v, hv, hu⟩ := unc_ex n (show 0 < unc u n by omega)
    have h2 := unc_or n hu
    rw [if_pos hv] at h2
    have ih := lv_ne (n := n) k (p ++ [v]) (u ||| 2 ^ v) (by omega)
    obtain ⟨l, hl⟩ := List.exists_mem_of_ne_nil _ ih
    refine List.ne_nil_of_mem (a := l) ?_
    simp only [lv, List.mem_flatMap, List.mem_range]
    exact ⟨v, hv, by rw [if_neg (by simp [hu])]; exact hl⟩
theorem lv_get {n : Nat} : ∀ k p u l, l ∈ lv n k p u → ∀ i, i < p.length → l.getD i 0 = p.getD i 0
  | 0, p, u, l, h, i, hi => by simp [lv] at h; rw [h]
  | k + 1, p, u, l, h, i, hi => by
    simp only [lv, List.mem_flatMap] at h
    obtain ⟨v, _, h⟩ := h
    split at h
    · simp at h
    · rw [lv_get k _ _ l h i (by simp; omega)]
      simp [List.getD_eq_getElem?_getD, List.getElem?_append_left hi]
theorem fm_le {α : Type} (g h : Nat → List α) (e : ∀ w, (g w).length ≤ (h w).length) : ∀ v, ((List.range v).flatMap g).length ≤ ((List.range v).flatMap h).length
  | 0 => by simp
  | v + 1 => by
    have := fm_le g h e v
    have := e v
    simp only [List.range_succ, List.flatMap_append, List.length_append, List.flatMap_cons, List.flatMap_nil, List.append_nil]
    omega
theorem fm_mono {α : Type} (h : Nat → List α) {v : Nat} : ∀ n, v ≤ n → ∃ R, (List.range n).flatMap h = (List.range v).flatMap h ++ R ∧ ∀ r ∈ R, ∃ w, v ≤ w ∧ w < n ∧ r ∈ h w
  | 0, e => by
    have : v = 0 := by omega
    subst this
    exact ⟨[], by simp, by simp⟩
  | n + 1, e => by
    rcases Nat.lt_or_ge n v with g | g
    · have : v = n + 1 := by omega
      subst this
      exact ⟨[], by simp, by simp⟩
    · obtain ⟨R, h1, h2⟩ := fm_mono h n g
      refine ⟨R ++ h n, ?_, ?_⟩
      · simp only [List.range_succ, List.flatMap_append, List.flatMap_cons, List.flatMap_nil, List.append_nil, h1, List.append_assoc]
      · intro r hr
        rcases List.mem_append.mp hr with hr | hr
        · obtain ⟨w, a, b, c⟩ := h2 r hr
          exact ⟨w, a, by omega, c⟩
        · exact ⟨n, g, by omega, hr⟩
theorem ord_upd {order : Int64} {p : List Nat} {d v : Nat} (h : ordIs order p d) (hp : p.length = d) (hd : d < 6) (hv : v < 8) : ordIs ((order &&& (((7 : Int64) <<< (((3 : Int32) * nI d).toInt64 &&& 63)) ^^^ (-1 : Int64))) ||| ((nI v).toInt64 <<< (((3 : Int32) * nI d).toInt64 &&& 63))) (p ++ [v]) (d + 1) := by
  obtain ⟨m, hm, rfl, hf⟩ := h
  have e : (3 : Int32) * nI d = nI (3 * d) := ni_mul 3 d
  have e7 : (7 : Int64) = lN 7 := rfl
  have em : (-1 : Int64) = lN (2 ^ 64 - 1) := by decide +kernel
  have ex : ∀ a b, lN a ^^^ lN b = lN (a ^^^ b) := by
    intro a b
    apply Int64.toBitVec_inj.1
    show BitVec.ofNat 64 a ^^^ BitVec.ofNat 64 b = BitVec.ofNat 64 (a ^^^ b)
    apply BitVec.eq_of_getLsbD_eq
    intro i hi
    simp [hi]
  rw [e, e7, em, nI_l (show v < 2 ^ 31 by omega), ln_shl _ (by omega), ln_shl _ (by omega), ex, ln_and, ln_or]
  have p18 : 2 ^ (3 * d) ≤ 2 ^ 15 := Nat.pow_le_pow_right (by decide) (by omega)
  have hb : v * 2 ^ (3 * d) < 2 ^ 18 := by
    have : v * 2 ^ (3 * d) ≤ 7 * 2 ^ 15 := Nat.mul_le_mul (by omega) p18
    exact Nat.lt_of_le_of_lt this (by decide)
  refine ⟨_, Nat.or_lt_two_pow (Nat.lt_of_le_of_lt Nat.and_le_left hm) hb, rfl, ?_⟩
  intro i hi
  have bits : ∀ j, j < 3 → ((m &&& (7 * 2 ^ (3 * d) ^^^ (2 ^ 64 - 1))) ||| v * 2 ^ (3 * d)).testBit (3 * i + j) = if i = d then v.testBit j else m.testBit (3 * i + j) := by
    intro j hj
    rw [Nat.testBit_or, Nat.testBit_and, Nat.testBit_xor, Nat.testBit_mul_two_pow, Nat.testBit_mul_two_pow, Nat.testBit_two_pow_sub_one, show (7 : Nat) = 2 ^ 3 - 1 from rfl, Nat.testBit_two_pow_sub_one]
    rcases Nat.lt_succ_iff_lt_or_eq.mp hi with g | rfl
    · have a1 : ¬ 3 * i + j ≥ 3 * d := by omega
      have a2 : 3 * i + j < 64 := by omega
      have a3 : i ≠ d := by omega
      simp [a1, a2, a3]
    · have a1 : 3 * i + j ≥ 3 * i := by omega
      have a2 : 3 * i + j < 64 := by omega
      have a3 : 3 * i + j - 3 * i = j := by omega
      simp [a2, a3, hj]
  have key : ∀ a b : Nat, (∀ j, j < 3 → a.testBit (3 * i + j) = b.testBit j) → b < 8 → a / 2 ^ (3 * i) % 8 = b := by
    intro a b hab hb8
    apply Nat.eq_of_testBit_eq
    intro j
    rw [show 8 = 2 ^ 3 from rfl, Nat.testBit_mod_two_pow, Nat.testBit_div_two_pow]
    by_cases hj : j < 3
    · rw [decide_eq_true hj, Bool.true_and, Nat.add_comm, hab j hj]
    · rw [decide_eq_false hj, Bool.false_and]
      exact (Nat.testBit_lt_two_pow (Nat.lt_of_lt_of_le hb8 (show 2 ^ 3 ≤ 2 ^ j from Nat.pow_le_pow_right (by decide) (by omega)))).symm
  rcases Nat.lt_succ_iff_lt_or_eq.mp hi with g | rfl
  · rw [← hf i g |>.trans (by simp [List.getD_eq_getElem?_getD, List.getElem?_append_left (show i < p.length by omega)] : p.getD i 0 = (p ++ [v]).getD i 0)]
    apply key
    · intro j hj
      rw [bits j hj, if_neg (by omega), show 8 = 2 ^ 3 from rfl, Nat.testBit_mod_two_pow, Nat.testBit_div_two_pow, decide_eq_true hj, Bool.true_and, Nat.add_comm]
    · exact Nat.mod_lt _ (by decide)
  · rw [show (p ++ [v]).getD i 0 = v by simp [List.getD_eq_getElem?_getD, hp]]
    apply key
    · intro j hj
      rw [bits j hj, if_pos rfl]
    · exact hv
theorem f_fan {fans : Nat → Int64} {v : Nat} (hv : v < 6) {post : Int64 → Prop} (h : post (fans v)) : F_X7_fan fans (nI v) post := by
  unfold F_X7_fan F_X7_fan_23
  refine br2 (nI_pos (by omega)) (br2 (nI_ge (a := v) (b := 6) (by omega) (by decide)) ⟨vp_in_nI (by omega) (by decide), ?_⟩)
  rw [nI_clamp (by omega)]
  exact h
theorem f_block {n b v x : Nat} {f : Nat → Nat} (hv : v < n) (hn : n ≤ 6) (hf : ∀ v, f v < 64) (hb : b = lanes n f) (hx : x = f v) {post : Int32 → Prop} (h : post (nI x)) : F_X7_block (lN b) (nI v) post := by
  unfold F_X7_block
  subst hb hx
  have hl := lanes_lt (f := f) (fun v => by have := hf v; omega) n
  have hl2 : lanes n f < 2 ^ 63 := Nat.lt_of_lt_of_le hl (Nat.pow_le_pow_right (by decide) (by omega))
  have e : (8 : Int32) * nI v = nI (8 * v) := ni_mul 8 v
  rw [e, ln_shr hl2 (show 8 * v < 64 by omega)]
  have e2 : (63 : Int32) = nI (2 ^ 6 - 1) := rfl
  rw [e2, li_mask]
  have g := lanes_get (f := f) (fun v => by have := hf v; omega) n hv
  have g2 : lanes n f / 2 ^ (8 * v) % 2 ^ 6 = f v := by
    have h1 := hf v
    have : lanes n f / 2 ^ (8 * v) % 256 % 64 = f v := by rw [g]; exact Nat.mod_eq_of_lt h1
    rw [Nat.mod_mod_of_dvd _ (by decide)] at this
    exact this
  rw [g2]
  exact h
theorem pl_24 {n D : Nat} {B : Nat → Nat} {p : List Nat} {u c d b : Nat} {FA} {ab st ts nn : Int32} {fans : Nat → Int64} {post} (hnn : nn = nI n) (hn : n ≤ 6) (hp : p.length < 6) (hu : u < 2 ^ n) (hb : b = lanes n (fun v => blk D B v p)) {first order seen : Int64} {bt least still sym : Int32} : ∀ j v, v + j = n →
    F_X2_placeNext_24 FA ab st ts nn fans post 1 (nI d) (nI u) (nI c) (lN b) (nI (lows D B p u n).1) (nI (lows D B p u n).2) (nI n) first bt least order seen still sym →
    F_X2_placeNext_24 FA ab st ts nn fans post (j + 1) (nI d) (nI u) (nI c) (lN b) (nI (lows D B p u v).1) (nI (lows D B p u v).2) (nI v) first bt least order seen still sym
  | 0, v, he, h => by
    have : v = n := by omega
    subst this
    exact h
  | j + 1, v, he, h => by
    subst hnn
    have ih := pl_24 (p := p) (c := c) (d := d) (ab := ab) (st := st) (ts := ts) (fans := fans) (post := post) (FA := FA) rfl hn hp hu hb (first := first) (order := order) (seen := seen) (bt := bt) (least := least) (still := still) (sym := sym) j (v + 1) (by omega) h
    have h6 : 2 ^ n ≤ 2 ^ 6 := Nat.pow_le_pow_right (by decide) hn
    have hvl : 2 ^ v ≤ 2 ^ 5 := Nat.pow_le_pow_right (by decide) (by omega)
    have bl : ∀ w, blk D B w p < 64 := fun w => Nat.lt_of_lt_of_le (blk_lt D B w p) (show _ ≤ 2 ^ 6 from Nat.pow_le_pow_right (by decide) (by omega))
    have hL := lows_le (D := D) (B := B) (p := p) (u := u) v
    unfold F_X2_placeNext_24
    refine br2 (nI_ge (by omega) (by omega)) (f_block (by omega) hn bl hb rfl ?_)
    have hb0 := ni_b0 (a := u) (by omega) (show v < 32 by omega)
    have e1 : (1 : Int32) <<< (nI v &&& 31) = nI (2 ^ v) := by
      show nI 1 <<< _ = _
      rw [ni_shl 1 (show v < 32 by omega), Nat.one_mul]
    have bv := bl v
    refine ⟨fun a => ?_, fun a => ⟨fun a2 => ?_, fun a2 => ⟨fun a3 => ?_, fun a3 => ?_⟩⟩⟩
    · have hu1 : u.testBit v = true := by
        cases e : u.testBit v with
        | true => rfl
        | false => exact absurd (hb0.mpr e) a
      rw [lows, if_pos hu1] at ih
      unfold F_X2_placeNext_85
      rw [nI_1]
      exact ih
    · rw [lows, if_neg (by rw [hb0.mp a]; decide), if_pos ((nI_ltI (by omega) (by omega)).mp a2)] at ih
      unfold F_X2_placeNext_85
      rw [nI_1]
      exact ih
    · have h1 : ¬ (lows D B p u v).1 < blk D B v p := fun g => a2 (nI_lt g (by omega))
      rw [lows, if_neg (by rw [hb0.mp a]; decide), if_neg h1, if_pos ((nI_leI (by omega) (by omega)).mp a3)] at ih
      unfold F_X2_placeNext_79 F_X2_placeNext_85
      dsimp only
      rw [nI_1, e1, ni_or]
      exact ih
    · have h1 : ¬ (lows D B p u v).1 < blk D B v p := fun g => a2 (nI_lt g (by omega))
      have h2 : ¬ (lows D B p u v).1 ≤ blk D B v p := fun g => a3 (nI_le g (by omega))
      rw [lows, if_neg (by rw [hb0.mp a]; decide), if_neg h1, if_neg h2] at ih
      unfold F_X2_placeNext_79 F_X2_placeNext_85
      dsimp only
      rw [nI_1, e1]
      exact ih
