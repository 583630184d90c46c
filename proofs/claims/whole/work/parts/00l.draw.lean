/-! a net out of its code: masks; the class's drawing -/
def maskOf (f : Nat → Bool) : Nat → Nat
  | 0 => 0
  | n + 1 => maskOf f n ||| (f n).toNat * 2 ^ n
theorem tb_bool (b : Bool) (n i : Nat) : (b.toNat * 2 ^ n).testBit i = (b && decide (i = n)) := by
  rw [Nat.testBit_mul_two_pow]
  cases b with
  | false => simp
  | true =>
    by_cases h : i = n
    · subst h; simp
    · simp only [Bool.toNat_true, Bool.true_and, decide_eq_false h]
      by_cases h2 : n ≤ i
      · have : (1 : Nat).testBit (i - n) = false := Nat.testBit_lt_two_pow (Nat.one_lt_two_pow (by omega))
        rw [this, Bool.and_false]
      · rw [decide_eq_false h2, Bool.false_and]
theorem mask_tb (f : Nat → Bool) (i : Nat) : ∀ n, (maskOf f n).testBit i = (decide (i < n) && f i)
  | 0 => by simp [maskOf]
  | n + 1 => by
    rw [maskOf, Nat.testBit_or, mask_tb f i n, tb_bool]
    rcases Nat.lt_trichotomy i n with h | rfl | h
    · have h1 : ¬ i = n := by omega
      have h2 : i < n + 1 := by omega
      simp [h, h1, h2]
    · simp
    · have h1 : ¬ i < n := by omega
      have h2 : ¬ i = n := by omega
      have h3 : ¬ i < n + 1 := by omega
      simp [h1, h2, h3]
theorem bool_pow_lt (b : Bool) (n : Nat) : b.toNat * 2 ^ n < 2 ^ (n + 1) := by
  have := bool_lt2 b
  have p : 0 < 2 ^ n := Nat.pow_pos (by decide)
  rw [Nat.pow_succ]
  cases b <;> simp <;> omega
theorem mask_lt (f : Nat → Bool) : ∀ n, maskOf f n < 2 ^ n
  | 0 => by simp [maskOf]
  | n + 1 => by
    rw [maskOf]
    refine Nat.or_lt_two_pow (Nat.lt_trans (mask_lt f n) (Nat.pow_lt_pow_right (by decide) (by omega))) (bool_pow_lt _ _)
theorem mask_congr {f g : Nat → Bool} {n : Nat} (h : ∀ i, i < n → f i = g i) : maskOf f n = maskOf g n := by
  apply Nat.eq_of_testBit_eq
  intro i
  rw [mask_tb, mask_tb]
  by_cases e : i < n
  · rw [h i e]
  · simp [e]
theorem mask_set {f : Nat → Bool} {n u : Nat} (hu : u < n) : maskOf f n ||| 2 ^ u = maskOf (fun w => f w || decide (w = u)) n := by
  apply Nat.eq_of_testBit_eq
  intro i
  rw [tb_or_pow, mask_tb, mask_tb]
  by_cases e : u = i
  · subst e; simp [hu]
  · have : ¬ i = u := fun h => e h.symm
    simp [e, this]
theorem lanes_tb (g : Nat → Bool) (i : Nat) : ∀ n, (lanes n (fun v => (g v).toNat)).testBit i = (decide (i % 8 = 0) && (decide (i / 8 < n) && g (i / 8)))
  | 0 => by simp [lanes]
  | n + 1 => by
    have hl : lanes n (fun v => (g v).toNat) < 2 ^ (8 * n) := lanes_lt (fun v => by have := bool_lt2 (g v); show (g v).toNat < 256; omega) n
    rw [lanes, Nat.add_comm, Nat.mul_comm, Nat.two_pow_add_eq_or_of_lt hl, Nat.testBit_or, lanes_tb g i n, Nat.mul_comm, tb_bool]
    by_cases h : i = 8 * n
    · subst h
      have e1 : 8 * n % 8 = 0 := by omega
      have e2 : 8 * n / 8 = n := by omega
      simp [e1, e2]
    · rcases Nat.lt_trichotomy (i / 8) n with h2 | h2 | h2
      · have : i / 8 < n + 1 := by omega
        simp [h, h2, this]
      · have : ¬ i % 8 = 0 := by omega
        simp [h, this]
      · have h3 : ¬ i / 8 < n := by omega
        have h4 : ¬ i / 8 < n + 1 := by omega
        simp [h, h3, h4]
theorem lanes_set {g : Nat → Bool} {n u : Nat} (hu : u < n) : lanes n (fun v => (g v).toNat) ||| 2 ^ (8 * u) = lanes n (fun v => (g v || decide (v = u)).toNat) := by
  apply Nat.eq_of_testBit_eq
  intro i
  rw [tb_or_pow, lanes_tb, lanes_tb]
  by_cases e : 8 * u = i
  · subst e
    have e1 : 8 * u % 8 = 0 := by omega
    have e2 : 8 * u / 8 = u := by omega
    simp [e1, e2, hu]
  · by_cases e1 : i % 8 = 0
    · have : ¬ i / 8 = u := by omega
      simp [e, this]
    · simp [e, e1]
theorem lanes_congr {f g : Nat → Nat} : ∀ {n : Nat}, (∀ i, i < n → f i = g i) → lanes n f = lanes n g
  | 0, _ => rfl
  | n + 1, h => by rw [lanes, lanes, lanes_congr (fun i hi => h i (by omega)), h n (by omega)]
/-- node v of the net of a code is dark; nodes u and v of it are joined -/
def dkb (n c v : Nat) : Bool := c.testBit (LN n - 1 - LN v)
def egb (n c u v : Nat) : Bool := decide (u ≠ v) && c.testBit (LN n - 2 - LN (max u v) - min u v)
theorem egb_comm (n c u v : Nat) : egb n c u v = egb n c v u := by
  unfold egb
  rw [Nat.max_comm, Nat.min_comm]
  congr 1
  exact decide_eq_decide.mpr ⟨fun h e => h e.symm, fun h e => h e.symm⟩
def dkM (n c : Nat) : Nat := maskOf (dkb n c) n
def byM (n c v : Nat) : Nat := maskOf (egb n c v) n
/-- what is drawn when the rows ahead of a, and row a ahead of b, are -/
def es (n c a b v u : Nat) : Bool := egb n c v u && (decide (max v u < a) || (decide (max v u = a) && decide (min v u < b)))
theorem es_full (n c a v u : Nat) (h : v < a) (h2 : u < a) : es n c a 0 v u = egb n c v u := by
  unfold es
  have : max v u < a := by omega
  simp [this]
theorem es_row (n c a v u : Nat) : es n c a a v u = es n c (a + 1) 0 v u := by
  unfold es egb
  by_cases e : v = u
  · simp [e]
  · rcases Nat.lt_trichotomy (max v u) a with h | h | h
    · have h1 : max v u < a + 1 := by omega
      simp [h, h1]
    · have h1 : max v u < a + 1 := by omega
      have h2 : min v u < a := by omega
      simp [h, h2]
    · have h1 : ¬ max v u < a + 1 := by omega
      have h2 : ¬ max v u < a := by omega
      have h3 : ¬ max v u = a := by omega
      by_cases h5 : max v u = a + 1
      · simp [h2, h3]; simp [h5]
      · simp [h1, h2, h3]
theorem es_step (n c a b v u : Nat) (hb : b < a) : es n c a (b + 1) v u = (es n c a b v u || (egb n c a b && ((decide (v = a) && decide (u = b)) || (decide (v = b) && decide (u = a))))) := by
  unfold es
  by_cases h1 : v = a ∧ u = b
  · obtain ⟨rfl, rfl⟩ := h1
    have e1 : max v u = v := by omega
    have e2 : min v u = u := by omega
    simp [e1, e2]
  · by_cases h2 : v = b ∧ u = a
    · obtain ⟨rfl, rfl⟩ := h2
      have e1 : max v u = u := by omega
      have e2 : min v u = v := by omega
      have e3 := egb_comm n c u v
      have e4 : ¬ v = u := by omega
      simp [e1, e2, e3, e4]
    · have e0 : ((decide (v = a) && decide (u = b)) || (decide (v = b) && decide (u = a))) = false := by
        rw [Bool.or_eq_false_iff, Bool.and_eq_false_iff, Bool.and_eq_false_iff, decide_eq_false_iff_not, decide_eq_false_iff_not, decide_eq_false_iff_not, decide_eq_false_iff_not]
        omega
      rw [e0, Bool.and_false, Bool.or_false]
      by_cases h3 : max v u = a
      · have h4 : (min v u < b + 1) ↔ (min v u < b) := by omega
        simp [h3, h4]
      · simp [h3]
/-- the drawing at that stage -/
def Drawn (n c a b : Nat) (fans : Nat → Int64) (near : Nat → Int32) : Prop := ∀ v, v < n → near v = nI (maskOf (es n c a b v) n) ∧ fans v = lN (lanes n (fun u => (es n c a b v u).toNat))
theorem drawn_congr {n c a b a2 b2 : Nat} {fans : Nat → Int64} {near : Nat → Int32} (h : Drawn n c a b fans near) (e : ∀ v u, v < n → u < n → es n c a b v u = es n c a2 b2 v u) : Drawn n c a2 b2 fans near := by
  intro v hv
  obtain ⟨h1, h2⟩ := h v hv
  rw [h1, h2, mask_congr (fun i hi => e v i hv hi), lanes_congr (g := fun u => (es n c a2 b2 v u).toNat) (fun i hi => by show (es n c a b v i).toNat = _; rw [e v i hv hi])]
  exact ⟨rfl, rfl⟩
theorem f_join {fans : Nat → Int64} {near : Nat → Int32} {v u : Nat} (hv : v < 6) (hu : u < 6) {post} (h : post (vp_updL fans v (fans v ||| lN (2 ^ (8 * u)))) (upd near v (near v ||| nI (2 ^ u)))) : F_X7_join fans near (nI v) (nI u) post := by
  unfold F_X7_join F_X7_join_49
  have g6 := nI_ge (a := v) (b := 6) (by omega) (by decide)
  have gi := vp_in_nI (n := v) (N := 6) (by omega) (by decide)
  refine br2 (nI_pos (by omega)) (br2 g6 (br2 g6 ⟨gi, gi, gi, gi, ?_⟩))
  rw [nI_clamp (by omega)]
  have e1 : (1 : Int64) <<< (((8 : Int32) * nI u).toInt64 &&& 63) = lN (2 ^ (8 * u)) := by
    rw [show (8 : Int32) * nI u = nI (8 * u) from ni_mul 8 u]
    show lN 1 <<< _ = _
    rw [ln_shl 1 (show 8 * u < 64 by omega), Nat.one_mul]
  have e2 : (1 : Int32) <<< (nI u &&& 31) = nI (2 ^ u) := by
    show nI 1 <<< _ = _
    rw [ni_shl 1 (show u < 32 by omega), Nat.one_mul]
  rw [e1, e2]
  exact h
theorem drawn_join {n c a b : Nat} {fans : Nat → Int64} {near : Nat → Int32} (hn : n ≤ 6) (ha : a < n) (hb : b < a) (h : Drawn n c a b fans near) : (egb n c a b = false → Drawn n c a (b + 1) fans near) ∧ (egb n c a b = true → Drawn n c a (b + 1) (vp_updL (vp_updL fans b (fans b ||| lN (2 ^ (8 * a)))) a (vp_updL fans b (fans b ||| lN (2 ^ (8 * a))) a ||| lN (2 ^ (8 * b)))) (upd (upd near b (near b ||| nI (2 ^ a))) a (upd near b (near b ||| nI (2 ^ a)) a ||| nI (2 ^ b)))) := by
  refine ⟨fun e => drawn_congr h (fun v u _ _ => by rw [es_step n c a b v u hb, e]; simp), fun e => ?_⟩
  intro v hv
  rw [updL_out (show a ≠ b by omega), upd_out (show a ≠ b by omega)]
  by_cases h1 : v = a
  · subst h1
    rw [updL_in, upd_in, (h v hv).1, (h v hv).2, ni_or, ln_or, mask_set (by omega), lanes_set (by omega)]
    have : ∀ u, (es n c v b v u || decide (u = b)) = es n c v (b + 1) v u := by
      intro u
      rw [es_step n c v b v u hb, e]
      have : ¬ v = b := by omega
      simp [this]
    rw [mask_congr (fun i _ => this i), lanes_congr (g := fun u => (es n c v (b + 1) v u).toNat) (fun i _ => by show (es n c v b v i || decide (i = b)).toNat = _; rw [this i])]
    exact ⟨rfl, rfl⟩
  · rw [updL_out h1, upd_out h1]
    by_cases h2 : v = b
    · subst h2
      rw [updL_in, upd_in, (h v hv).1, (h v hv).2, ni_or, ln_or, mask_set (by omega), lanes_set (by omega)]
      have : ∀ u, (es n c a v v u || decide (u = a)) = es n c a (v + 1) v u := by
        intro u
        rw [es_step n c a v v u hb, e]
        simp [h1]
      rw [mask_congr (fun i _ => this i), lanes_congr (g := fun u => (es n c a (v + 1) v u).toNat) (fun i _ => by show (es n c a v v i || decide (i = a)).toNat = _; rw [this i])]
      exact ⟨rfl, rfl⟩
    · rw [updL_out h2, upd_out h2, (h v hv).1, (h v hv).2]
      have : ∀ u, es n c a b v u = es n c a (b + 1) v u := by
        intro u
        rw [es_step n c a b v u hb]
        simp [h1, h2]
      rw [mask_congr (fun i _ => this i), lanes_congr (g := fun u => (es n c a (b + 1) v u).toNat) (fun i _ => by show (es n c a b v i).toNat = _; rw [this i])]
      exact ⟨rfl, rfl⟩
theorem draw_117 {n c a : Nat} (hn : n ≤ 6) (hc : c < 2 ^ 21) (ha : a < n) {post K63 : _} {cl : Int64} {dk nn : Int32} (K : ∀ fans near, Drawn n c a a fans near → K63 (nI c) (nI (LN n - LN (a + 1)) + (-1)) (nI a + 1) cl dk nn fans near) : ∀ (j b : Nat) (fans : Nat → Int64) (near : Nat → Int32), b + j = a → Drawn n c a b fans near → F_X7_draw_117 post K63 (j + 1) (nI c) (nI (LN n - LN a - 1 - b) + (-1)) (nI a) (nI b) cl dk nn fans near
  | 0, b, fans, near, he, h => by
    have : b = a := by omega
    subst this
    unfold F_X7_draw_117
    refine br1 (Int32.le_refl _) ?_
    have := K fans near h
    rw [show LN n - LN (b + 1) = LN n - LN b - 1 - b by rw [LN_succ]; omega] at this
    exact this
  | j + 1, b, fans, near, he, h => by
    unfold F_X7_draw_117
    have hLk := LN_succ a
    have hLm := LN_mono (show a + 1 ≤ n by omega)
    have hL6 := LN_mono hn
    have h6 : LN 6 = 21 := rfl
    refine br2 (nI_ge (by omega) (by omega)) ?_
    have eb : nI (LN n - LN a - 1 - b) + (-1) = nI (LN n - 2 - LN a - b) := by
      rw [show LN n - LN a - 1 - b = (LN n - 2 - LN a - b) + 1 by omega, ni_dec]
    have eb2 : nI (LN n - 2 - LN a - b) = nI (LN n - LN a - 1 - (b + 1)) := by
      congr 1; omega
    have hd := drawn_join hn ha (show b < a by omega) h
    have ee : egb n c a b = c.testBit (LN n - 2 - LN a - b) := by
      unfold egb
      have h1 : max a b = a := by omega
      have h2 : min a b = b := by omega
      have h3 : a ≠ b := by omega
      simp [h1, h2, h3]
    have hb1 := ni_b1 (show c < 2 ^ 31 from Nat.lt_of_lt_of_le hc (by decide)) (show LN n - 2 - LN a - b < 32 by omega)
    rw [eb]
    refine ⟨fun g => ?_, fun g => ?_⟩
    · unfold F_X7_draw_149
      rw [nI_1, eb2]
      refine draw_117 hn hc ha K j (b + 1) fans near (by omega) (hd.1 ?_)
      rw [ee]
      cases e : c.testBit (LN n - 2 - LN a - b) with
      | false => rfl
      | true => exact absurd (hb1.mpr e) g
    · refine f_join (by omega) (by omega) (f_join (by omega) (by omega) ?_)
      unfold F_X7_draw_149
      rw [nI_1, eb2]
      exact draw_117 hn hc ha K j (b + 1) _ _ (by omega) (hd.2 (by rw [ee]; exact hb1.mp g))
theorem draw_63 {n c : Nat} (hn : n ≤ 6) (hc : c < 2 ^ 21) {post : Int64 → Int32 → Int32 → (Nat → Int64) → (Nat → Int32) → Prop} (K : ∀ fans near, Drawn n c n 0 fans near → post (lN (lanes n (fun v => (dkb n c v).toNat))) (nI (dkM n c)) (nI n) fans near) : ∀ (j a : Nat) (fans : Nat → Int64) (near : Nat → Int32), a + j = n → Drawn n c a 0 fans near → F_X7_draw_63 post (j + 1) (nI c) (nI (LN n - LN a) + (-1)) (nI a) (lN (lanes a (fun v => (dkb n c v).toNat))) (nI (maskOf (dkb n c) a)) (nI n) fans near
  | 0, a, fans, near, he, h => by
    have : a = n := by omega
    subst this
    unfold F_X7_draw_63
    exact br1 (Int32.le_refl _) (K fans near h)
  | j + 1, a, fans, near, he, h => by
    unfold F_X7_draw_63
    have hLk := LN_succ a
    have hLm := LN_mono (show a + 1 ≤ n by omega)
    have hL6 := LN_mono hn
    have h6 : LN 6 = 21 := rfl
    refine br2 (nI_ge (by omega) (by omega)) ⟨a + 1, ?_⟩
    have eb : nI (LN n - LN a) + (-1) = nI (LN n - 1 - LN a) := by
      rw [show LN n - LN a = (LN n - 1 - LN a) + 1 by omega, ni_dec]
    have eb2 : nI (LN n - 1 - LN a) = nI (LN n - LN a - 1 - 0) := by
      congr 1; omega
    rw [eb, ni_tb (show c < 2 ^ 31 from Nat.lt_of_lt_of_le hc (by decide)) (show LN n - 1 - LN a < 32 by omega), eb2]
    have e1 : (nI (c.testBit (LN n - 1 - LN a)).toNat).toInt64 <<< (((8 : Int32) * nI a).toInt64 &&& 63) = lN ((dkb n c a).toNat * 2 ^ (8 * a)) := by
      rw [show (8 : Int32) * nI a = nI (8 * a) from ni_mul 8 a, nI_l (by have := bool_lt2 (c.testBit (LN n - 1 - LN a)); omega), ln_shl _ (show 8 * a < 64 by omega)]
      rfl
    have e2 : (nI (c.testBit (LN n - 1 - LN a)).toNat) <<< (nI a &&& 31) = nI ((dkb n c a).toNat * 2 ^ a) := by
      rw [ni_shl _ (show a < 32 by omega)]
      rfl
    have hl : lanes a (fun v => (dkb n c v).toNat) < 2 ^ (8 * a) := lanes_lt (fun v => by have := bool_lt2 (dkb n c v); show (dkb n c v).toNat < 256; omega) a
    have e3 : lanes a (fun v => (dkb n c v).toNat) ||| (dkb n c a).toNat * 2 ^ (8 * a) = lanes (a + 1) (fun v => (dkb n c v).toNat) := by
      rw [lanes, Nat.add_comm, Nat.mul_comm, Nat.two_pow_add_eq_or_of_lt hl, Nat.or_comm]
    rw [e1, e2, ln_or, ni_or, e3]
    refine draw_117 hn hc (by omega) (fun fans near h => ?_) a 0 fans near (by omega) h
    rw [nI_1]
    exact draw_63 hn hc K j (a + 1) fans near (by omega) (drawn_congr h (fun v u _ _ => es_row n c a v u))
theorem draw_22 {n c : Nat} (hn : n ≤ 6) (hc : c < 2 ^ 21) {post : Int64 → Int32 → Int32 → (Nat → Int64) → (Nat → Int32) → Prop} (K : ∀ fans near, Drawn n c n 0 fans near → post (lN (lanes n (fun v => (dkb n c v).toNat))) (nI (dkM n c)) (nI n) fans near) : ∀ (j a : Nat) (fans : Nat → Int64) (near : Nat → Int32), a + j = n → (∀ v, v < a → near v = 0 ∧ fans v = 0) → F_X7_draw_22 post (j + 1) (nI c) (nI a) 0 0 (nI n) fans near
  | 0, a, fans, near, he, h => by
    have : a = n := by omega
    subst this
    unfold F_X7_draw_22
    refine br1 (Int32.le_refl _) (f_bits (by omega) ⟨a + 1, ?_⟩)
    have e : nI (LN a) - 1 = nI (LN a - LN 0) + (-1) := by
      rw [Int32.sub_eq_add_neg]; rfl
    rw [e]
    refine draw_63 hn hc K a 0 fans near (by omega) ?_
    intro v hv
    have e0 : ∀ u, es a c 0 0 v u = false := by
      intro u
      unfold es
      simp
    have z1 : maskOf (es a c 0 0 v) a = 0 := by
      apply Nat.eq_of_testBit_eq; intro i; rw [mask_tb, e0]; simp
    have z2 : lanes a (fun u => (es a c 0 0 v u).toNat) = 0 := by
      apply Nat.eq_of_testBit_eq; intro i; rw [lanes_tb, e0]; simp
    rw [z1, z2]
    exact h v hv
  | j + 1, a, fans, near, he, h => by
    unfold F_X7_draw_22
    have gi := vp_in_nI (n := a) (N := 6) (by omega) (by decide)
    refine br2 (nI_ge (by omega) (by omega)) ⟨gi, gi, ?_⟩
    rw [nI_clamp (by omega), nI_1]
    refine draw_22 hn hc K j (a + 1) _ _ (by omega) ?_
    intro v hv
    by_cases e : v = a
    · subst e; rw [upd_in, updL_in]; exact ⟨rfl, rfl⟩
    · rw [upd_out e, updL_out e]; exact h v (by omega)
/-- the sketch of a net -/
def Sk (n c : Nat) (cl : Int64) (dk nn : Int32) (fans : Nat → Int64) (near : Nat → Int32) : Prop := cl = lN (lanes n (fun v => ((dkM n c).testBit v).toNat)) ∧ dk = nI (dkM n c) ∧ nn = nI n ∧ ∀ v, v < n → near v = nI (byM n c v) ∧ fans v = lN (lanes n (fun u => ((byM n c v).testBit u).toNat))
theorem f_draw {n c : Nat} (hn : n ≤ 6) (hc : c < 2 ^ 21) {cl : Int64} {dk nn : Int32} {fans : Nat → Int64} {near : Nat → Int32} {post} (K : ∀ cl dk nn fans near, Sk n c cl dk nn fans near → post cl dk nn fans near) : F_X7_draw cl dk nn fans near (nI n) (nI c) post := by
  unfold F_X7_draw
  have e : (if (6 : Int32) < nI n then (6 : Int32) else nI n) = nI n := if_neg (nI_nlt (a := 6) (b := n) hn (by decide))
  rw [e]
  refine ⟨n + 1, draw_22 hn hc (fun fans near h => K _ _ _ _ _ ⟨?_, rfl, rfl, ?_⟩) n 0 fans near (by omega) (fun v h => absurd h (Nat.not_lt_zero _))⟩
  · congr 1
    refine lanes_congr (fun i hi => ?_)
    show (dkb n c i).toNat = _
    unfold dkM
    rw [mask_tb]; simp [hi]
  · intro v hv
    obtain ⟨h1, h2⟩ := h v hv
    rw [h1, h2, mask_congr (fun i hi => es_full n c n v i hv hi)]
    refine ⟨rfl, ?_⟩
    congr 1
    refine lanes_congr (fun i hi => ?_)
    show (es n c n 0 v i).toNat = _
    rw [es_full n c n v i hv hi]
    unfold byM
    rw [mask_tb]; simp [hi]
