/-! shares of the last level: how many of the first numbers keep a condition -/
def cnt (P : Nat → Bool) (N : Nat) : Nat := ((List.range N).filter P).length
theorem cnt_succ (P : Nat → Bool) (N : Nat) : cnt P (N + 1) = cnt P N + (P N).toNat := by
  unfold cnt
  rw [List.range_succ, List.filter_append, List.length_append]
  cases e : P N <;> simp [e]
theorem cnt_add {P Q R : Nat → Bool} : ∀ N, (∀ x, x < N → (R x).toNat = (P x).toNat + (Q x).toNat) → cnt R N = cnt P N + cnt Q N
  | 0, _ => rfl
  | N + 1, h => by
    rw [cnt_succ, cnt_succ, cnt_succ, cnt_add N (fun x hx => h x (by omega)), h N (by omega)]
    omega
theorem cnt_congr {P Q : Nat → Bool} : ∀ N, (∀ x, x < N → P x = Q x) → cnt P N = cnt Q N
  | 0, _ => rfl
  | N + 1, h => by
    rw [cnt_succ, cnt_succ, cnt_congr N (fun x hx => h x (by omega)), h N (by omega)]
theorem cnt_le (P : Nat → Bool) (a : Nat) : ∀ d, cnt P a ≤ cnt P (a + d)
  | 0 => Nat.le_refl _
  | d + 1 => by
    have := cnt_le P a d
    rw [← Nat.add_assoc, cnt_succ]
    omega
theorem cnt_max (P : Nat → Bool) : ∀ N, cnt P N ≤ N
  | 0 => Nat.le_refl _
  | N + 1 => by
    have := cnt_max P N
    have := bool_lt2 (P N)
    rw [cnt_succ]
    omega
theorem cnt_ivl {t1 t2 : Nat} (h : t1 ≤ t2) : ∀ N, cnt (fun x => decide (t1 ≤ x) && decide (x < t2)) N = min N t2 - min N t1
  | 0 => by simp [cnt]
  | N + 1 => by
    rw [cnt_succ, cnt_ivl h N]
    by_cases g1 : t1 ≤ N
    · by_cases g2 : N < t2
      · rw [decide_eq_true g1, decide_eq_true g2]
        show _ + 1 = _
        omega
      · rw [decide_eq_true g1, decide_eq_false g2]
        show _ + 0 = _
        omega
    · rw [decide_eq_false g1]
      show _ + 0 = _
      omega
theorem cnt_one {P : Nat → Bool} {a : Nat} : ∀ b, (∀ x, a ≤ x → x < a + b → P x = true) → cnt P (a + b) = cnt P a + b
  | 0, _ => rfl
  | b + 1, h => by
    rw [← Nat.add_assoc, cnt_succ, cnt_one b (fun x p q => h x p (by omega)), h (a + b) (by omega) (by omega)]
    show _ + 1 = _
    omega
theorem cnt_cut {P Q : Nat → Bool} {t : Nat} : ∀ d, (∀ x, x < t + d → (Q x = true ↔ x < t)) → cnt (fun x => P x && Q x) (t + d) = cnt P t
  | 0, h => cnt_congr t (fun x hx => by
    have : Q x = true := (h x (by omega)).mpr hx
    show (P x && Q x) = P x
    rw [this, Bool.and_true])
  | d + 1, h => by
    rw [← Nat.add_assoc, cnt_succ, cnt_cut d (fun x hx => h x (by omega))]
    have : Q (t + d) = false := by
      cases e : Q (t + d) with
      | false => rfl
      | true => have := (h (t + d) (by omega)).mp e; omega
    show _ + (P (t + d) && Q (t + d)).toNat = _
    rw [this, Bool.and_false]
    rfl
theorem cnt_uniq {P : Nat → Bool} {x y : Nat} (hx : P x = true) (hy : P y = true) (h : cnt P x = cnt P y) : x = y := by
  rcases Nat.lt_trichotomy x y with g | g | g
  · have h1 := cnt_le P (x + 1) (y - (x + 1))
    rw [show x + 1 + (y - (x + 1)) = y by omega, cnt_succ, hx] at h1
    have : (true).toNat = 1 := rfl
    omega
  · exact g
  · have h1 := cnt_le P (y + 1) (x - (y + 1))
    rw [show y + 1 + (x - (y + 1)) = x by omega, cnt_succ, hy] at h1
    have : (true).toNat = 1 := rfl
    omega
theorem pre_mem {k : KD} (hk : KOk k) {d : Nat} (h1 : 1 ≤ d) : ∀ j c, d + j ≤ kSz k → c ∈ lvl k (d + j) → c / 2 ^ (LN (d + j) - LN d) ∈ lvl k d
  | 0, c, _, hc => by
    rw [Nat.add_zero, Nat.sub_self, Nat.pow_zero, Nat.div_one]
    exact hc
  | j + 1, c, hd, hc => by
    have h2 := (last_out hk (n := d + j) (by omega) (by omega) hc).2
    have h3 := pre_mem hk h1 j _ (by omega) h2
    rw [Nat.div_div_eq_div_mul, ← Nat.pow_add] at h3
    have e := LN_succ (d + j)
    have m := LN_mono (show d ≤ d + j by omega)
    rw [show d + j + 1 + (LN (d + j) - LN d) = LN (d + (j + 1)) - LN d by rw [← Nat.add_assoc, e]; omega] at h3
    exact h3
theorem idx_of {L : List Nat} (hL : L.Pairwise (· < ·)) {i : Nat} (hi : i < L.length) : L.idxOf (L.getD i 0) = i := by
  have h := ix_some hL hi rfl
  unfold ixF at h
  split at h
  · exact Option.some.inj h
  · exact absurd h (by simp)
def fb (k : KD) (d x : Nat) : Nat := fbk k d ((lvl k (kSz k)).getD x 0)
def NL (k : KD) : Nat := (lvl k (kSz k)).length
def shP (k : KD) (d p i x : Nat) : Bool := fb k d x % p == i
theorem shL_len (k : KD) (d p i : Nat) : (shL k d p i).length = cnt (shP k d p i) (NL k) := rfl
theorem fb_at {k : KD} (hk : KOk k) {d x : Nat} (h1 : 1 ≤ d) (h2 : d ≤ kSz k) (hx : x < NL k) : ∃ q, q < (lvl k d).length ∧ (lvl k d).getD q 0 = (lvl k (kSz k)).getD x 0 / 2 ^ (LN (kSz k) - LN d) ∧ fb k d x = q := by
  have hsz := size_le hk
  have hm := pre_mem hk h1 (kSz k - d) ((lvl k (kSz k)).getD x 0) (by omega) (by rw [show d + (kSz k - d) = kSz k by omega]; exact getD_mem hx)
  rw [show d + (kSz k - d) = kSz k by omega] at hm
  obtain ⟨q, hq, e⟩ := mem_get hm
  refine ⟨q, hq, e, ?_⟩
  unfold fb fbk
  rw [← e]
  exact idx_of (lvl_up k (by omega)) hq
theorem fb_lt {k : KD} (hk : KOk k) {d x q t1 : Nat} (h1 : 1 ≤ d) (h2 : d ≤ kSz k) (hq : q < (lvl k d).length) (b1 : LB (lvl k (kSz k)) ((lvl k d).getD q 0 * 2 ^ (LN (kSz k) - LN d)) t1) (hx : x < NL k) : fb k d x < q ↔ x < t1 := by
  have hsz := size_le hk
  obtain ⟨r, hr, e, e2⟩ := fb_at hk h1 h2 hx
  obtain ⟨a1, a2, a3⟩ := b1
  have hp : 0 < 2 ^ (LN (kSz k) - LN d) := Nat.pow_pos (by decide)
  rw [e2]
  constructor
  · intro g
    have := up_get (lvl_up k (show d ≤ 6 by omega)) g hq
    rw [e, Nat.div_lt_iff_lt_mul hp] at this
    exact Nat.lt_of_not_le (fun h => by have := a3 x h hx; omega)
  · intro g
    have := a2 x g
    rw [← Nat.div_lt_iff_lt_mul hp, ← e] at this
    exact Nat.lt_of_not_le (fun h => by have := up_le (lvl_up k (show d ≤ 6 by omega)) h hr; omega)
theorem fb_eq {k : KD} (hk : KOk k) {d x q t1 t2 : Nat} (h1 : 1 ≤ d) (h2 : d ≤ kSz k) (hq : q < (lvl k d).length) (b1 : LB (lvl k (kSz k)) ((lvl k d).getD q 0 * 2 ^ (LN (kSz k) - LN d)) t1) (b2 : LB (lvl k (kSz k)) (((lvl k d).getD q 0 + 1) * 2 ^ (LN (kSz k) - LN d)) t2) (hx : x < NL k) : fb k d x = q ↔ t1 ≤ x ∧ x < t2 := by
  have hsz := size_le hk
  obtain ⟨r, hr, e, e2⟩ := fb_at hk h1 h2 hx
  rw [e2, ← under b1 b2 (Nat.pow_pos (by decide)) hx, ← e]
  have hd : (lvl k d).Nodup := (lvl_up k (by omega)).imp (fun h => Nat.ne_of_lt h)
  exact ⟨fun g => by rw [g], fun g => getD_inj hd hr hq g⟩
theorem mod_same {f q p : Nat} (h1 : q ≤ f) (h2 : f < q + p) (h : f % p = q % p) : f = q := by
  have := Nat.sub_mod_eq_zero_of_mod_eq h
  rw [Nat.mod_eq_of_lt (by omega)] at this
  omega
def shS (k : KD) (d p i q : Nat) : Nat := cnt (fun x => shP k d p i x && decide (fb k d x < q)) (NL k)
theorem sh_step {k : KD} (hk : KOk k) {d p i q t1 t2 : Nat} (h1 : 1 ≤ d) (h2 : d ≤ kSz k) (hp : 1 ≤ p) (hqi : q % p = i) (hq : q < (lvl k d).length) (b1 : LB (lvl k (kSz k)) ((lvl k d).getD q 0 * 2 ^ (LN (kSz k) - LN d)) t1) (b2 : LB (lvl k (kSz k)) (((lvl k d).getD q 0 + 1) * 2 ^ (LN (kSz k) - LN d)) t2) (h12 : t1 ≤ t2) : shS k d p i (q + p) = shS k d p i q + (t2 - t1) := by
  unfold shS
  rw [cnt_add (P := fun x => shP k d p i x && decide (fb k d x < q)) (Q := fun x => decide (t1 ≤ x) && decide (x < t2)) (NL k) (fun x hx => ?_), cnt_ivl h12]
  · have := b1.1
    have := b2.1
    unfold NL
    omega
  · have e := fb_eq hk h1 h2 hq b1 b2 hx
    show (shP k d p i x && decide (fb k d x < q + p)).toNat = (shP k d p i x && decide (fb k d x < q)).toNat + (decide (t1 ≤ x) && decide (x < t2)).toNat
    unfold shP
    by_cases g : fb k d x = q
    · have g2 := e.mp g
      rw [decide_eq_true g2.1, decide_eq_true g2.2, g, hqi, beq_self_eq_true, decide_eq_true (show q < q + p by omega), decide_eq_false (show ¬ q < q by omega)]
      rfl
    · have h3 : ¬ (t1 ≤ x ∧ x < t2) := fun h => g (e.mpr h)
      rw [← Bool.decide_and, decide_eq_false h3]
      by_cases m : fb k d x % p = i
      · have : fb k d x < q + p ↔ fb k d x < q := ⟨fun h => Nat.lt_of_not_le (fun h5 => g (mod_same h5 h (m.trans hqi.symm))), fun h => by omega⟩
        rw [decide_eq_decide.mpr this]
        rfl
      · rw [beq_eq_false_iff_ne.mpr m, Bool.false_and, Bool.false_and]
        rfl
theorem sh_all {k : KD} (hk : KOk k) {d p i q : Nat} (h1 : 1 ≤ d) (h2 : d ≤ kSz k) (hq : (lvl k d).length ≤ q) : shS k d p i q = (shL k d p i).length := by
  rw [shL_len]
  refine cnt_congr _ (fun x hx => ?_)
  obtain ⟨r, hr, _, e⟩ := fb_at hk h1 h2 hx
  show (shP k d p i x && decide (fb k d x < q)) = shP k d p i x
  rw [decide_eq_true (show fb k d x < q by omega), Bool.and_true]
theorem sh_zero {k : KD} {d p i : Nat} (hi : i < p) : shS k d p i i = 0 := by
  unfold shS cnt
  rw [List.length_eq_zero_iff, List.filter_eq_nil_iff]
  intro x _ h
  unfold shP at h
  rw [Bool.and_eq_true, beq_iff_eq, decide_eq_true_iff] at h
  rw [Nat.mod_eq_of_lt (by omega)] at h
  omega
theorem heir_lt {k : KD} (hk : KOk k) {d q : Nat} (h1 : 1 ≤ d) (h2 : d ≤ kSz k) (hq : q < (lvl k d).length) : ((lvl k d).getD q 0 + 1) * 2 ^ (LN (kSz k) - LN d) < 2 ^ 31 := by
  have hsz := size_le hk
  have hc := (lvl_get hk h1 h2 hq).2.1
  have h3 : ((lvl k d).getD q 0 + 1) * 2 ^ (LN (kSz k) - LN d) ≤ 2 ^ LN d * 2 ^ (LN (kSz k) - LN d) := Nat.mul_le_mul_right _ hc
  have m := LN_mono h2
  have m6 := LN_mono hsz
  rw [← Nat.pow_add, show LN d + (LN (kSz k) - LN d) = LN (kSz k) by omega] at h3
  have e6 : LN 6 = 21 := rfl
  have := Nat.pow_le_pow_right (show 0 < 2 by decide) (show LN (kSz k) ≤ 21 by omega)
  exact Nat.lt_of_le_of_lt (Nat.le_trans h3 this) (by decide)
theorem f_shareSize {k : KD} (hk : KOk k) {total : Int32} {codes firsts : Nat → Int32} (hL : LvX k total codes firsts) {d p i : Nat} (h1 : 1 ≤ d) (h2 : d ≤ kSz k) (hp1 : 1 ≤ p) (hp : p ≤ 9) (hi : i < p) {post : Int32 → Prop} (K : post (nI (shL k d p i).length)) : F_X3_shareSize total codes firsts (nI (kSz k)) (nI d) (nI p) (nI i) post := by
  have hsz := size_le hk
  have hld := lvl_len k d (by omega)
  have hls := lvl_len k (kSz k) hsz
  unfold F_X3_shareSize
  refine ⟨(lvl k d).length + 1, ?_⟩
  have main : ∀ f q, (lvl k d).length - q < f → q < (lvl k d).length + 9 → q % p = i → F_X3_shareSize_7 total codes firsts post f (nI (kSz k)) (nI d) (nI p) (nI (shS k d p i q)) (nI q) := by
    intro f
    induction f with
    | zero => intro q h; omega
    | succ f ih =>
      intro q hf hq9 hqi
      unfold F_X3_shareSize_7 F_X3_shareSize_43
      refine f_amount hL.2.1 h1 (by omega) (by omega) ?_
      by_cases g : q < (lvl k d).length
      · refine br2 (nI_ge g (by omega)) (br2 (nI_nle (by omega) (by omega)) (f_heirs hk hL h1 h2 h2 (by omega) g (heir_lt hk h1 h2 g) (fun t1 t2 h12 b1 b2 => ?_)))
        rw [nI_add, nI_add, ← sh_step hk h1 h2 hp1 hqi g b1 b2 h12]
        exact ih (q + p) (by omega) (by omega) (by rw [Nat.add_mod_right]; exact hqi)
      · refine br1 (nI_le (by omega) (by omega)) ?_
        rw [sh_all hk h1 h2 (by omega)]
        exact K
  have := main ((lvl k d).length + 1) i (by omega) (by omega) (Nat.mod_eq_of_lt hi)
  rw [sh_zero hi] at this
  exact this
theorem f_shareNumber {k : KD} (hk : KOk k) {total : Int32} {codes firsts : Nat → Int32} (hL : LvX k total codes firsts) {d p i m : Nat} (h1 : 1 ≤ d) (h2 : d ≤ kSz k) (hp1 : 1 ≤ p) (hp : p ≤ 9) (hi : i < p) (hm : m < 2 ^ 31) {post : Int32 → Prop} (K1 : ∀ x, x < NL k → shP k d p i x = true → cnt (shP k d p i) x = m → post (nI x)) (K2 : cnt (shP k d p i) (NL k) ≤ m → post (-1)) : F_X3_shareNumber total codes firsts (nI (kSz k)) (nI d) (nI p) (nI i) (nI m) post := by
  have hsz := size_le hk
  have hld := lvl_len k d (by omega)
  have hls := lvl_len k (kSz k) hsz
  unfold F_X3_shareNumber
  refine ⟨(lvl k d).length + 1, ?_⟩
  have main : ∀ f q r, (lvl k d).length - q < f → q < (lvl k d).length + 9 → q % p = i → shS k d p i q + r = m → F_X3_shareNumber_8 total codes firsts post f (nI (kSz k)) (nI d) (nI p) (nI r) (nI q) := by
    intro f
    induction f with
    | zero => intro q r h; omega
    | succ f ih =>
      intro q r hf hq9 hqi hr
      unfold F_X3_shareNumber_8 F_X3_shareNumber_72
      refine f_amount hL.2.1 h1 (by omega) (by omega) ?_
      by_cases g : q < (lvl k d).length
      · refine br2 (nI_ge g (by omega)) (br2 (nI_nle (by omega) (by omega)) (br2 (nI_pos (by omega)) (f_heirs hk hL h1 h2 h2 (by omega) g (heir_lt hk h1 h2 g) (fun t1 t2 h12 b1 b2 => ?_))))
        have l1 := b1.1
        have l2 := b2.1
        by_cases g2 : t2 - t1 ≤ r
        · refine br1 (nI_le g2 (by omega)) ?_
          rw [ni_sub g2, nI_add]
          exact ih (q + p) (r - (t2 - t1)) (by omega) (by omega) (by rw [Nat.add_mod_right]; exact hqi) (by rw [sh_step hk h1 h2 hp1 hqi g b1 b2 h12]; omega)
        · refine br2 (nI_ge (by omega) (by omega)) (f_firstHeir hk hL h1 h2 h2 (by omega) g (Nat.lt_of_le_of_lt (Nat.mul_le_mul_right _ (by omega)) (heir_lt hk h1 h2 g)) (fun t b => ?_))
          have := LB_uniq b b1
          subst this
          rw [nI_add]
          have hN : t2 ≤ NL k := l2
          have hP : ∀ x, t ≤ x → x < t2 → shP k d p i x = true := fun x a c => by
            unfold shP
            rw [(fb_eq hk h1 h2 g b1 b2 (by omega)).mpr ⟨a, c⟩, hqi, beq_self_eq_true]
          refine K1 (t + r) (by omega) (hP _ (by omega) (by omega)) ?_
          rw [cnt_one r (fun x a c => hP x a (by omega)), ← hr]
          congr 1
          unfold shS
          have hc := cnt_cut (P := shP k d p i) (Q := fun x => decide (fb k d x < q)) (t := t) (NL k - t) (fun x hx => by
            rw [decide_eq_true_iff]
            exact fb_lt hk h1 h2 g b1 (by omega))
          rw [show t + (NL k - t) = NL k by omega] at hc
          exact hc.symm
      · refine br1 (nI_le (by omega) (by omega)) (K2 ?_)
        have := sh_all hk (p := p) (i := i) h1 h2 (show (lvl k d).length ≤ q by omega)
        rw [shL_len] at this
        omega
  have := main ((lvl k d).length + 1) i m (by omega) (by omega) (Nat.mod_eq_of_lt hi)
  rw [sh_zero hi] at this
  exact this (by omega)
theorem f_shareNumber0 {k : KD} (hk : KOk k) {total : Int32} {codes firsts : Nat → Int32} (hL : LvX k total codes firsts) {d p i : Nat} (h1 : 1 ≤ d) (h2 : d ≤ kSz k) (hp1 : 1 ≤ p) (hp : p ≤ 9) (hi : i < p) {post : Int32 → Prop} (K : post (-1)) : F_X3_shareNumber total codes firsts (nI (kSz k)) (nI d) (nI p) (nI i) (-1) post := by
  have hsz := size_le hk
  have hld := lvl_len k d (by omega)
  unfold F_X3_shareNumber
  refine ⟨1, ?_⟩
  unfold F_X3_shareNumber_8 F_X3_shareNumber_72
  refine f_amount hL.2.1 h1 (by omega) (by omega) ?_
  by_cases g : i < (lvl k d).length
  · exact br2 (nI_ge g (by omega)) (br2 (nI_nle (by omega) (by omega)) (br1 (by decide) K))
  · exact br1 (nI_le (by omega) (by omega)) K
theorem f_isIn {k : KD} (hk : KOk k) {w forms many : Nat → Int32} (hw : WR k w) (hU : LvUp k 7 forms many) {dk nn fm la sy : Int32} {by0 fo od : Nat → Int32} {d p i x : Nat} (h1 : 1 ≤ d) (h2 : d ≤ kSz k) (hp1 : 1 ≤ p) (hp : p ≤ 9) (hi : i < p) (hx : x < NL k) {post : Int32 → Int32 → Int32 → Int32 → Int32 → Int32 → (Nat → Int32) → (Nat → Int32) → (Nat → Int32) → Prop} (K : ∀ d1 f l nn s b o1 o2, post (nI (shP k d p i x).toNat) d1 f l nn s b o1 o2) : F_X12_isIn forms many w dk fm la nn sy by0 fo od (nI d) (nI p) (nI i) (nI x) post := by
  have hsz := size_le hk
  have hls := lvl_len k (kSz k) hsz
  unfold F_X12_isIn
  refine ⟨vp_in_nI (n := 0) (by decide) (by decide), kSz k - d + 1, ?_⟩
  rw [w_size hw]
  have main : ∀ j n at0 dk fm la nn sy by0 fo od, d + j = n → n ≤ kSz k → at0 < (lvl k n).length → (lvl k n).getD at0 0 = (lvl k (kSz k)).getD x 0 / 2 ^ (LN (kSz k) - LN n) → F_X12_isIn_12 forms many w post (j + 1) (nI d) (nI p) (nI i) (nI at0) (nI n) dk fm la nn sy by0 fo od := by
    intro j
    induction j with
    | zero =>
      intro n at0 dk fm la nn sy by0 fo od hn hns hat e
      have : d = n := by omega
      subst this
      have hln := lvl_len k d (by omega)
      have hf : fb k d x = at0 := by
        unfold fb fbk
        rw [← e]
        exact idx_of (lvl_up k (by omega)) hat
      unfold F_X12_isIn_12 F_X12_isIn_47
      refine br1 (nI_le (Nat.le_refl _) (by omega)) ⟨nI_ne0 (by omega) (by omega), ?_⟩
      have em : at0 - at0 / p * p = at0 % p := by
        have := Nat.div_add_mod at0 p
        rw [Nat.mul_comm] at this
        omega
      have hle : at0 / p * p ≤ at0 := Nat.div_mul_le_self _ _
      rw [ni_div (by omega) (by omega) (by omega), ni_mul, ni_sub hle, em]
      have hmod : at0 % p < p := Nat.mod_lt _ (by omega)
      by_cases c : at0 % p = i
      · have hK := K
        unfold shP at hK
        rw [hf, c, beq_self_eq_true] at hK
        exact br4 (by rw [c]) ⟨by decide, hK _ _ _ _ _ _ _ _⟩
      · have hK := K
        unfold shP at hK
        rw [hf, beq_eq_false_iff_ne.mpr c] at hK
        exact br3 (fun g => c (ni_inj (by omega) (by omega) g)) ⟨by decide, hK _ _ _ _ _ _ _ _⟩
    | succ j ih =>
      intro n at0 dk fm la nn sy by0 fo od hn hns hat e
      obtain ⟨n, rfl⟩ : ∃ m, n = m + 1 := ⟨n - 1, by omega⟩
      unfold F_X12_isIn_12
      refine br2 (nI_ge (by omega) (by omega)) (f_parentOf hk hU (n := n) (by omega) hns hat (fun q hq e2 d1 f l nn s b o1 o2 => ?_))
      rw [ni_dec]
      refine ih n q _ _ _ _ _ _ _ _ (by omega) (by omega) hq ?_
      have s := LN_succ n
      have m := LN_mono hns
      rw [e2, e, Nat.div_div_eq_div_mul, ← Nat.pow_add]
      congr 2
      omega
  refine main (kSz k - d) (kSz k) x _ _ _ _ _ _ _ _ (by omega) (Nat.le_refl _) hx ?_
  rw [Nat.sub_self, Nat.pow_zero, Nat.div_one]
theorem nm1 {m : Nat} (hm : m < 2 ^ 31) (e : nI m = -1) : False := nlt0 hm (by rw [e]; decide)
theorem f_shared {k : KD} (hk : KOk k) {w forms many : Nat → Int32} (hw : WR k w) (hU : LvUp k 7 forms many) {dk nn fm la sy : Int32} {by0 fo od : Nat → Int32} {d p i : Nat} (h1 : 1 ≤ d) (h2 : d ≤ kSz k) (hp1 : 1 ≤ p) (hp : p ≤ 9) (hi : i < p) {pl : Int32} (hpl : pl = -1 ∨ ∃ m, m < 2 ^ 31 ∧ pl = nI m) {post : Int32 → Int32 → Int32 → Int32 → Int32 → Int32 → (Nat → Int32) → (Nat → Int32) → (Nat → Int32) → Prop} (K1 : pl = -1 → ∀ d1 f l nn s b o1 o2, post (nI (shL k d p i).length) d1 f l nn s b o1 o2) (K2 : ∀ m, m < 2 ^ 31 → pl = nI m → ∀ x, x < NL k → shP k d p i x = true → cnt (shP k d p i) x = m → ∀ d1 f l nn s b o1 o2, post (nI x) d1 f l nn s b o1 o2) (K3 : ∀ m, m < 2 ^ 31 → pl = nI m → cnt (shP k d p i) (NL k) ≤ m → ∀ d1 f l nn s b o1 o2, post (-1) d1 f l nn s b o1 o2) : F_X12_shared forms many w dk fm la nn sy by0 fo od (nI d) (nI p) (nI i) pl post := by
  have hsz := size_le hk
  have hls := lvl_len k (kSz k) hsz
  have hs1 := hk.1
  unfold F_X12_shared
  refine ⟨NL k + 1, ?_⟩
  have main : ∀ j c dk fm la nn sy by0 fo od, c + j = NL k → (∀ m, m < 2 ^ 31 → pl = nI m → cnt (shP k d p i) c ≤ m) → F_X12_shared_6 forms many w post (j + 1) (nI d) (nI p) (nI i) pl (nI (cnt (shP k d p i) c)) (nI c) dk fm la nn sy by0 fo od := by
    intro j
    induction j with
    | zero =>
      intro c dk fm la nn sy by0 fo od hc inv
      have : c = NL k := by omega
      subst this
      unfold F_X12_shared_6 F_X12_shared_68
      refine ⟨vp_in_nI (n := 0) (by decide) (by decide), ?_⟩
      rw [w_size hw, many_at hU hs1 hsz]
      refine ⟨vp_in_nI (by omega) (by decide), br1 (nI_le (by unfold NL; omega) (by unfold NL; omega)) ⟨fun ne => ?_, fun e => ?_⟩⟩
      · rcases hpl with e | ⟨m, hm, e⟩
        · exact absurd e ne
        · exact K3 m hm e (inv m hm e) _ _ _ _ _ _ _ _
      · exact K1 e _ _ _ _ _ _ _ _
    | succ j ih =>
      intro c dk fm la nn sy by0 fo od hc inv
      have hcN : c < NL k := by omega
      have hNL : NL k ≤ 544 := hls
      have hcm := cnt_max (shP k d p i) c
      have ih := fun dk fm la nn sy by0 fo od => ih (c + 1) dk fm la nn sy by0 fo od (by omega)
      rw [cnt_succ] at ih
      unfold F_X12_shared_6 F_X12_shared_50
      refine ⟨vp_in_nI (n := 0) (by decide) (by decide), ?_⟩
      rw [w_size hw, many_at hU hs1 hsz]
      refine ⟨vp_in_nI (by omega) (by decide), br2 (nI_ge hcN (by omega)) (f_isIn hk hw hU h1 h2 hp1 hp hi hcN (fun d1 f l nn s b o1 o2 => ?_))⟩
      rw [nI_1, nI_1]
      cases hP : shP k d p i c with
      | true =>
        rw [hP] at ih
        refine br3 (by decide) ⟨fun ne => ih _ _ _ _ _ _ _ _ (fun m hm e => ?_), fun e => ?_⟩
        · have h3 := inv m hm e
          have : cnt (shP k d p i) c ≠ m := fun g => ne (by rw [g, e])
          show _ + 1 ≤ m
          omega
        · rcases hpl with g | ⟨m, hm, g⟩
          · exact (nm1 (m := cnt (shP k d p i) c) (by omega) (e.trans g)).elim
          · exact K2 m hm g c hcN hP (ni_inj (by omega) hm (e.trans g)) _ _ _ _ _ _ _ _
      | false =>
        rw [hP] at ih
        exact br4 rfl (ih _ _ _ _ _ _ _ _ inv)
  exact main (NL k) 0 _ _ _ _ _ _ _ _ (by omega) (fun m _ _ => Nat.zero_le _)
/-! which shares there are, and walkers -/
def NoSh (k : KD) (p1 p2 p3 : Int32) : Prop := NoLv k p1 ∨ ∃ d, 1 ≤ d ∧ d ≤ kSz k ∧ p1 = nI d ∧ ((p2 < nI 1 ∨ nI 9 < p2) ∨ ∃ p, 1 ≤ p ∧ p ≤ 9 ∧ p2 = nI p ∧ (p3 < 0 ∨ ¬ p3 < nI p))
theorem share_q {k : KD} (hk : KOk k) (p1 p2 p3 : Int32) : NoSh k p1 p2 p3 ∨ ∃ d p i, 1 ≤ d ∧ d ≤ kSz k ∧ 1 ≤ p ∧ p ≤ 9 ∧ i < p ∧ p1 = nI d ∧ p2 = nI p ∧ p3 = nI i := by
  have := size_le hk
  rcases rng p1 (a := 1) (b := kSz k) (by decide) (by omega) with h | ⟨d, h1, h2, rfl⟩
  · exact Or.inl (Or.inl h)
  · rcases rng p2 (a := 1) (b := 9) (by decide) (by decide) with h | ⟨p, h3, h4, rfl⟩
    · exact Or.inl (Or.inr ⟨d, h1, h2, rfl, Or.inl h⟩)
    · rcases node_q p (by omega) p3 with h | ⟨i, hi, rfl⟩
      · exact Or.inl (Or.inr ⟨d, h1, h2, rfl, Or.inr ⟨p, h3, h4, rfl, h⟩⟩)
      · exact Or.inr ⟨d, p, i, h1, h2, h3, h4, hi, rfl, rfl, rfl⟩
theorem x_needShare_n {k : KD} (hk : KOk k) {p1 p2 p3 : Int32} (h : NoSh k p1 p2 p3) {post : Prop} {postx : String → Prop} (K : postx "java/lang/IllegalArgumentException") : F_X11_needShare (nI (kSz k)) p1 p2 p3 post postx := by
  have := size_le hk
  unfold F_X11_needShare F_X11_needShare_36
  rcases h with h | ⟨d, h1, h2, rfl, h⟩
  · refine ⟨fun _ => K, fun g => ⟨fun _ => K, fun g2 => ?_⟩⟩
    rcases h with h | h
    · exact absurd h g
    · exact absurd h g2
  · refine br2 (nI_nlt (b := 1) h1 (by omega)) (br2 (nI_nlt h2 (by omega)) ?_)
    rcases h with h | ⟨p, h3, h4, rfl, h⟩
    · refine ⟨fun _ => K, fun g => ⟨fun _ => K, fun g2 => ?_⟩⟩
      rcases h with h | h
      · exact absurd h g
      · exact absurd h g2
    · refine br2 (nI_nlt (b := 1) h3 (by omega)) (br2 (nI_nlt (a := 9) h4 (by decide)) ⟨fun _ => K, fun g => br2 ?_ K⟩)
      rcases h with h | h
      · exact absurd h g
      · exact h
theorem x_needShare_y {k : KD} (hk : KOk k) {d p i : Nat} (h1 : 1 ≤ d) (h2 : d ≤ kSz k) (hp1 : 1 ≤ p) (hp : p ≤ 9) (hi : i < p) {post : Prop} {postx : String → Prop} (K : post) : F_X11_needShare (nI (kSz k)) (nI d) (nI p) (nI i) post postx := by
  have := size_le hk
  unfold F_X11_needShare
  exact br2 (nI_nlt (b := 1) h1 (by omega)) (br2 (nI_nlt h2 (by omega)) (br2 (nI_nlt (b := 1) hp1 (by omega)) (br2 (nI_nlt (a := 9) hp (by decide)) (br2 (nI_pos (by omega)) (br1 (nI_lt hi (by omega)) K)))))
theorem f_isShare_n {k : KD} (hk : KOk k) {w : Nat → Int32} (hw : WR k w) {p1 p2 p3 : Int32} (h : NoSh k p1 p2 p3) {post : Int32 → Prop} (K : post 0) : F_X12_isShare w p1 p2 p3 post := by
  have := size_le hk
  unfold F_X12_isShare F_X12_isShare_40 F_X12_isShare_39
  refine ⟨vp_in_nI (n := 0) (by decide) (by decide), ?_⟩
  rw [w_size hw]
  rcases h with h | ⟨d, h1, h2, rfl, h⟩
  · exact f_in_n h (br1 rfl ⟨by decide, K⟩)
  · refine f_in_y (a := 1) h1 h2 (by omega) (br2 (by decide) ?_)
    rcases h with h | ⟨p, h3, h4, rfl, h⟩
    · exact f_in_n h (br1 rfl ⟨by decide, K⟩)
    · refine f_in_y (a := 1) (b := 9) h3 h4 (by decide) (br2 (by decide) (f_in_len (by omega) ?_ (br1 rfl ⟨by decide, K⟩)))
      rcases h with h | h
      · exact Or.inl h
      · exact Or.inr (Int32.not_lt.mp h)
theorem f_isShare_y {k : KD} (hk : KOk k) {w : Nat → Int32} (hw : WR k w) {d p i : Nat} (h1 : 1 ≤ d) (h2 : d ≤ kSz k) (hp1 : 1 ≤ p) (hp : p ≤ 9) (hi : i < p) {post : Int32 → Prop} (K : post 1) : F_X12_isShare w (nI d) (nI p) (nI i) post := by
  have := size_le hk
  unfold F_X12_isShare F_X12_isShare_40
  refine ⟨vp_in_nI (n := 0) (by decide) (by decide), ?_⟩
  rw [w_size hw]
  exact f_in_y (a := 1) h1 h2 (by omega) (br2 (by decide) (f_in_y (a := 1) (b := 9) hp1 hp (by decide) (br2 (by decide) (f_in_lenY (by omega) hi (br2 (by decide) ⟨by decide, K⟩)))))
theorem x_needWalker_y {v : Nat} (hv : v < 3) {post : Prop} {postx : String → Prop} (K : post) : F_X11_needWalker (nI v) post postx := by
  unfold F_X11_needWalker
  exact br2 (nI_pos (by omega)) (br1 (nI_lt (b := 3) hv (by decide)) K)
theorem x_needWalker_n {p : Int32} (h : p < 0 ∨ ¬ p < nI 3) {post : Prop} {postx : String → Prop} (K : postx "java/lang/IndexOutOfBoundsException") : F_X11_needWalker p post postx := by
  unfold F_X11_needWalker F_X11_needWalker_9
  refine ⟨fun _ => K, fun g => br2 ?_ K⟩
  rcases h with h | h
  · exact absurd h g
  · exact h
theorem f_in3_n {p : Int32} (h : p < 0 ∨ ¬ p < nI 3) {post : Int32 → Prop} (K : post 0) : F_X12_in p 0 2 post := by
  refine f_in_n ?_ K
  rcases h with h | h
  · exact Or.inl h
  · right
    rw [Int32.lt_iff_toInt_lt] at h ⊢
    have e3 : (nI 3).toInt = 3 := by decide
    have e2 : (2 : Int32).toInt = 2 := by decide
    omega
theorem f_in3_y {v : Nat} (hv : v < 3) {post : Int32 → Prop} (K : post 1) : F_X12_in (nI v) 0 2 post := f_in_y (a := 0) (b := 2) (by omega) (by omega) (by decide) K
theorem wk_at (v j : Nat) : (18 : Int32) + 4 * nI v + nI j = nI (18 + 4 * v + j) := by
  rw [show (4 : Int32) * nI v = nI (4 * v) from ni_mul 4 v, show (18 : Int32) + nI (4 * v) = nI (18 + 4 * v) from nI_add 18 _, nI_add]
theorem f_walkerAt {v j : Nat} {post : Int32 → Prop} (K : post (nI (18 + 4 * v + j))) : F_X12_walkerAt (nI v) (nI j) post := by
  unfold F_X12_walkerAt
  rw [wk_at]
  exact K
theorem f_ofWalker {w : Nat → Int32} {v j : Nat} (hv : v < 3) (hj : j < 4) {post : Int32 → Prop} (K : post (w (18 + 4 * v + j))) : F_X12_ofWalker w (nI v) (nI j) post := by
  unfold F_X12_ofWalker
  refine f_walkerAt ⟨vp_in_nI (by omega) (by decide), ?_⟩
  rw [nI_clamp (by omega)]
  exact K
theorem f_walked {w forms many : Nat → Int32} {dk nn fm la sy : Int32} {by0 fo od : Nat → Int32} {v d p i : Nat} (hv : v < 3) (e1 : w (18 + 4 * v) = nI d) (e2 : w (18 + 4 * v + 1) = nI p) (e3 : w (18 + 4 * v + 2) = nI i) {pl : Int32} {post : Int32 → Int32 → Int32 → Int32 → Int32 → Int32 → (Nat → Int32) → (Nat → Int32) → (Nat → Int32) → Prop} (K : F_X12_shared forms many w dk fm la nn sy by0 fo od (nI d) (nI p) (nI i) pl post) : F_X12_walked forms many w dk fm la nn sy by0 fo od (nI v) pl post := by
  unfold F_X12_walked
  refine f_ofWalker (j := 0) hv (by decide) (f_ofWalker (j := 1) hv (by decide) (f_ofWalker (j := 2) hv (by decide) ?_))
  rw [show w (18 + 4 * v + 0) = nI d from e1, e2, e3]
  exact K
theorem f_put {p0 : Nat → Int32} {v : Nat} {x : Int32} (hv : v < 3) {post : (Nat → Int32) → Prop} (K : post (upd p0 v x)) : F_X10_put 3 p0 (nI v) x post := by
  unfold F_X10_put F_X10_put_18
  refine br2 (nI_pos (by omega)) (br2 (nI_ge (b := 3) hv (by decide)) ⟨vp_in_nI hv (by decide), ?_⟩)
  rw [nI_clamp (by omega)]
  exact K
theorem WR_18 {k : KD} (hk : KOk k) {w w2 : Nat → Int32} (h : ∀ i, i < 18 → w2 i = w i) (hw : WR k w) : WR k w2 := by
  obtain ⟨a0, a1, a2, ⟨fr, ev, fo, b1, b2, b3, b4, b5⟩, a6, a7, a8, a12, a13, a15, a16, a17⟩ := hw
  have hl := hk.2.2.2.2.1
  refine ⟨(h 0 (by decide)).trans a0, (h 1 (by decide)).trans a1, ?_, ⟨fr, ev, fo, b1, (h 3 (by decide)).trans b2, (h 4 (by decide)).trans b3, (h 5 (by decide)).trans b4, b5⟩, (h 6 (by decide)).trans a6, (h 7 (by decide)).trans a7, fun i hi => ?_, (h 12 (by decide)).trans a12, ?_, ?_, (h 16 (by decide)).trans a16, (h 17 (by decide)).trans a17⟩
  · rw [h 2 (by decide)]; exact a2
  · rw [h _ (by omega), h _ (by omega)]; exact a8 i hi
  · rw [h 13 (by decide), h 14 (by decide)]; exact a13
  · rw [h 15 (by decide)]; exact a15
theorem WkR_give {k : KD} {w dep al own lst : Nat → Int32} (hW : WkR k w dep al own lst) {v d p i : Nat} (hv : v < 3) (h1 : 1 ≤ d) (h2 : d ≤ kSz k) (hp1 : 1 ≤ p) (hp : p ≤ 9) (hi : i < p) : WkR k (upd (upd (upd (upd w (18 + 4 * v + 0) (nI d)) (18 + 4 * v + 1) (nI p)) (18 + 4 * v + 2) (nI i)) (18 + 4 * v + 3) 0) (upd dep v (nI d)) (upd al v (nI p)) (upd own v (nI i)) (upd lst v 0) := by
  intro u hu
  by_cases e : u = v
  · subst e
    refine ⟨d, p, i, 0, ?_, ?_, ?_, ?_, upd_in, upd_in, upd_in, upd_in, Or.inr ⟨h1, h2, hp1, hp, hi, Nat.zero_le _⟩⟩
    · rw [upd_out (by omega), upd_out (by omega), upd_out (by omega)]; exact upd_in
    · rw [upd_out (by omega), upd_out (by omega)]; exact upd_in
    · rw [upd_out (by omega)]; exact upd_in
    · exact upd_in
  · obtain ⟨d, p, i, l, e1, e2, e3, e4, e5, e6, e7, e8, e9⟩ := hW u hu
    refine ⟨d, p, i, l, ?_, ?_, ?_, ?_, ?_, ?_, ?_, ?_, e9⟩
    · rw [upd_out (by omega), upd_out (by omega), upd_out (by omega), upd_out (by omega)]; exact e1
    · rw [upd_out (by omega), upd_out (by omega), upd_out (by omega), upd_out (by omega)]; exact e2
    · rw [upd_out (by omega), upd_out (by omega), upd_out (by omega), upd_out (by omega)]; exact e3
    · rw [upd_out (by omega), upd_out (by omega), upd_out (by omega), upd_out (by omega)]; exact e4
    · rw [upd_out e]; exact e5
    · rw [upd_out e]; exact e6
    · rw [upd_out e]; exact e7
    · rw [upd_out e]; exact e8
theorem WkR_list {k : KD} {w dep al own lst : Nat → Int32} (hW : WkR k w dep al own lst) {v d p i l : Nat} (hv : v < 3) (e1 : w (18 + 4 * v) = nI d) (e2 : w (18 + 4 * v + 1) = nI p) (e3 : w (18 + 4 * v + 2) = nI i) (e5 : dep v = nI d) (e6 : al v = nI p) (e7 : own v = nI i) (h1 : 1 ≤ d) (h2 : d ≤ kSz k) (hp1 : 1 ≤ p) (hp : p ≤ 9) (hi : i < p) (hl : l ≤ (shL k d p i).length) : WkR k (upd w (18 + 4 * v + 3) (nI l)) dep al own (upd lst v (nI l)) := by
  intro u hu
  by_cases e : u = v
  · subst e
    refine ⟨d, p, i, l, ?_, ?_, ?_, upd_in, e5, e6, e7, upd_in, Or.inr ⟨h1, h2, hp1, hp, hi, hl⟩⟩
    · rw [upd_out (by omega)]; exact e1
    · rw [upd_out (by omega)]; exact e2
    · rw [upd_out (by omega)]; exact e3
  · obtain ⟨d, p, i, l, e1, e2, e3, e4, e5, e6, e7, e8, e9⟩ := hW u hu
    refine ⟨d, p, i, l, ?_, ?_, ?_, ?_, e5, e6, e7, ?_, e9⟩
    · rw [upd_out (by omega)]; exact e1
    · rw [upd_out (by omega)]; exact e2
    · rw [upd_out (by omega)]; exact e3
    · rw [upd_out (by omega)]; exact e4
    · rw [upd_out e]; exact e8
theorem f_shareOf {k : KD} (hk : KOk k) {total : Int32} {codes firsts : Nat → Int32} (hL : LvX k total codes firsts) {dep al own : Nat → Int32} {v d p i : Nat} (hv : v < 3) (e5 : dep v = nI d) (e6 : al v = nI p) (e7 : own v = nI i) (h1 : 1 ≤ d) (h2 : d ≤ kSz k) (hp1 : 1 ≤ p) (hp : p ≤ 9) (hi : i < p) {post : Int32 → Prop} (K : post (nI (shL k d p i).length)) : F_X11_shareOf total codes firsts (nI (kSz k)) al dep own (nI v) post := by
  unfold F_X11_shareOf F_X10_depth F_X10_parts F_X10_part
  refine f_look hv (f_look hv (f_look hv ?_))
  rw [e5, e6, e7]
  exact f_shareSize hk hL h1 h2 hp1 hp hi K
theorem x_needShareOf_y {k : KD} (hk : KOk k) {w dep al own lst : Nat → Int32} (hW : WkR k w dep al own lst) {v : Nat} (hv : v < 3) (h : ¬ w (18 + 4 * v) = 0) {post : Prop} {postx : String → Prop} (K : post) : F_X11_needShareOf dep (nI v) post postx := by
  unfold F_X11_needShareOf
  refine f_hasShare hk hW hv ?_
  rw [if_neg h]
  exact br3 (by decide) K
theorem x_needShareOf_n {k : KD} (hk : KOk k) {w dep al own lst : Nat → Int32} (hW : WkR k w dep al own lst) {v : Nat} (hv : v < 3) (h : w (18 + 4 * v) = 0) {post : Prop} {postx : String → Prop} (K : postx "java/lang/IllegalStateException") : F_X11_needShareOf dep (nI v) post postx := by
  unfold F_X11_needShareOf
  refine f_hasShare hk hW hv ?_
  rw [if_pos h]
  exact br4 rfl K
theorem wk_get {k : KD} {w dep al own lst : Nat → Int32} (hk : KOk k) (hW : WkR k w dep al own lst) {v : Nat} (hv : v < 3) (h : ¬ w (18 + 4 * v) = 0) : ∃ d p i l : Nat, w (18 + 4 * v) = nI d ∧ w (18 + 4 * v + 1) = nI p ∧ w (18 + 4 * v + 2) = nI i ∧ w (18 + 4 * v + 3) = nI l ∧ dep v = nI d ∧ al v = nI p ∧ own v = nI i ∧ lst v = nI l ∧ 1 ≤ d ∧ d ≤ kSz k ∧ 1 ≤ p ∧ p ≤ 9 ∧ i < p ∧ l ≤ (shL k d p i).length := by
  obtain ⟨d, p, i, l, e1, e2, e3, e4, e5, e6, e7, e8, e9⟩ := hW v hv
  rcases e9 with ⟨g, _⟩ | ⟨g1, g2, g3, g4, g5, g6⟩
  · subst g
    exact absurd e1 h
  · exact ⟨d, p, i, l, e1, e2, e3, e4, e5, e6, e7, e8, g1, g2, g3, g4, g5, g6⟩
theorem f_hasNone0 {k : KD} {w dep al own lst : Nat → Int32} (hW : WkR k w dep al own lst) {v : Nat} (hv : v < 3) (h : ¬ w (18 + 4 * v) = 0) {post : Int32 → Prop} (K : post 0) : F_X12_hasNone w (nI v) post := f_hasNone hW hv (by rw [if_neg h]; exact K)
theorem f_hasNone1 {k : KD} {w dep al own lst : Nat → Int32} (hW : WkR k w dep al own lst) {v : Nat} (hv : v < 3) (h : w (18 + 4 * v) = 0) {post : Int32 → Prop} (K : post 1) : F_X12_hasNone w (nI v) post := f_hasNone hW hv (by rw [if_pos h]; exact K)
theorem shL_max (k : KD) (d p i : Nat) : (shL k d p i).length ≤ NL k := by rw [shL_len]; exact cnt_max _ _
theorem lc26 (xs : Nat → Int32) (L : Nat) (hL3 : L ≤ 3072) : LC26 xs L IInv := by
  unfold LC26
  intro x4 m_begin m_dark m_end m_faultAt m_form m_hasImage m_heldDark m_lasts m_nodes m_pairs m_point m_symmetries m_taped m_thrown m_toldEdges m_toldForm m_toldNodes m_toldSymmetries m_writtenMany m_by m_decks m_draft m_firstOrder m_five m_forms m_held m_image m_many m_order m_seen m_tape m_toldOrder m_world m_written o x_hasImage x_cycleSums_edges x_cycleSums_hasDark x_cycleSums_parts x_cycleSums_ways x_decks x_draft_bannedCircles x_draft_endLines x_draft_endsJoined x_draft_fewestEdges x_draft_hasDark x_draft_least x_draft_most x_draft_mostEdges x_draft_patterns x_draft_ruleLines x_draft_size x_draft_unlike x_draft_words x_draft_patternCodes x_draft_patternNodes x_forms_allBits x_forms_firstOrder x_forms_isBeaten x_forms_isStudy x_forms_isTest x_forms_least x_forms_nodes x_forms_order x_forms_seen x_forms_stillEdges x_forms_symmetries x_forms_sketch_colours x_forms_sketch_darks x_forms_sketch_nodes x_forms_sketch_fans x_forms_sketch_near x_keptLevels_total x_keptLevels_codes x_keptLevels_firsts x_keptRules_bannedCircles x_keptRules_endLines x_keptRules_endsJoined x_keptRules_fewestEdges x_keptRules_hasDark x_keptRules_least x_keptRules_most x_keptRules_mostEdges x_keptRules_patterns x_keptRules_ruleLines x_keptRules_size x_keptRules_unlike x_keptRules_words x_keptRules_patternCodes x_keptRules_patternNodes x_keptWalkers_allParts x_keptWalkers_depths x_keptWalkers_lists x_keptWalkers_ownParts x_levels_total x_levels_codes x_levels_firsts x_match_best x_match_code x_match_one_colours x_match_one_darks x_match_one_nodes x_match_one_fans x_match_one_near x_match_two_colours x_match_two_darks x_match_two_nodes x_match_two_fans x_match_two_near x_page_length x_page_bytes x_rules_bannedCircles x_rules_endLines x_rules_endsJoined x_rules_fewestEdges x_rules_hasDark x_rules_least x_rules_most x_rules_mostEdges x_rules_patterns x_rules_ruleLines x_rules_size x_rules_unlike x_rules_words x_rules_patternCodes x_rules_patternNodes x_sketch_colours x_sketch_darks x_sketch_nodes x_sketch_fans x_sketch_near x_tape_begun x_tape_length x_tape_position x_tape_wrong x_tape_bytes x_texts_code x_texts_nodes x_toldForms_allBits x_toldForms_firstOrder x_toldForms_isBeaten x_toldForms_isStudy x_toldForms_isTest x_toldForms_least x_toldForms_nodes x_toldForms_order x_toldForms_seen x_toldForms_stillEdges x_toldForms_symmetries x_toldForms_sketch_colours x_toldForms_sketch_darks x_toldForms_sketch_nodes x_toldForms_sketch_fans x_toldForms_sketch_near x_walkers_allParts x_walkers_depths x_walkers_lists x_walkers_ownParts hx0 hxL hI
  obtain ⟨k, hT, hK, hW, hG, hD, hO, hP⟩ := hI
  obtain ⟨hk, hw, ⟨q1, q2, q3, q4, q5, q6, q7, q8, q9, q10, q11, q12, hp⟩, hL, hU⟩ := hK
  subst q1 q2 q3 q4 q5 q6 q7 q8 q9 q10 q11 q12
  have hsz := size_le hk
  have a1 := arg_in hx0 hxL (by omega) (j := 1) (by omega)
  have a2 := arg_in hx0 hxL (by omega) (j := 2) (by omega)
  have a3 := arg_in hx0 hxL (by omega) (j := 3) (by omega)
  have a4 := arg_in hx0 hxL (by omega) (j := 4) (by omega)
  have a5 := arg_in hx0 hxL (by omega) (j := 5) (by omega)
  have o0 := vp_in_nI (n := 0) (N := 1) (by decide) (by decide)
  
  unfold F_law_c26 F_L_share F_law_c26_2037
  refine ⟨a1, a2, a3, ?_⟩
  generalize xs (x4 + 1).toNatClampNeg = p1
  generalize xs (x4 + 2).toNatClampNeg = p2
  generalize xs (x4 + 3).toNatClampNeg = p3
  unfold F_X11_share F_X12_share F_X12_share_21 F_X12_share_40 F_X12_thrown
  rcases share_q hk p1 p2 p3 with h | ⟨d, p, i, h1, h2, hp1, hp9, hi, rfl, rfl, rfl⟩
  · exact x_needShare_n hk h ⟨rfl, a1, a2, a3, f_isShare_n hk hw h (br4 rfl (f_throws1 (br2 (by decide) (law_fin rfl (fun e => absurd e (by decide)) ⟨rfl, k, hT, ⟨hk, hw, ⟨rfl, rfl, rfl, rfl, rfl, rfl, rfl, rfl, rfl, rfl, rfl, rfl, hp⟩, hL, hU⟩, hW, hG, hD, hO, hP⟩))))⟩
  · refine x_needShare_y hk h1 h2 hp1 hp9 hi (f_shareSize hk hL h1 h2 hp1 hp9 hi ⟨o0, a1, a2, a3, f_isShare_y hk hw h1 h2 hp1 hp9 hi (br3 (by decide) (f_throws0 (br1 rfl (f_shared hk hw hU h1 h2 hp1 hp9 hi (Or.inl rfl) (fun _ d1 f l nn s b o1 o2 => ?_) (fun m hm e => (nm1 hm e.symm).elim) (fun m hm e => (nm1 hm e.symm).elim)))))⟩)
    exact law_fin rfl (fun _ => updL_in) ⟨rfl, k, hT, ⟨hk, hw, ⟨rfl, rfl, rfl, rfl, rfl, rfl, rfl, rfl, rfl, rfl, rfl, rfl, hp⟩, hL, hU⟩, hW, hG, hD, hO, hP⟩
theorem lc27 (xs : Nat → Int32) (L : Nat) (hL3 : L ≤ 3072) : LC27 xs L IInv := by
  unfold LC27
  intro x4 m_begin m_dark m_end m_faultAt m_form m_hasImage m_heldDark m_lasts m_nodes m_pairs m_point m_symmetries m_taped m_thrown m_toldEdges m_toldForm m_toldNodes m_toldSymmetries m_writtenMany m_by m_decks m_draft m_firstOrder m_five m_forms m_held m_image m_many m_order m_seen m_tape m_toldOrder m_world m_written o x_hasImage x_cycleSums_edges x_cycleSums_hasDark x_cycleSums_parts x_cycleSums_ways x_decks x_draft_bannedCircles x_draft_endLines x_draft_endsJoined x_draft_fewestEdges x_draft_hasDark x_draft_least x_draft_most x_draft_mostEdges x_draft_patterns x_draft_ruleLines x_draft_size x_draft_unlike x_draft_words x_draft_patternCodes x_draft_patternNodes x_forms_allBits x_forms_firstOrder x_forms_isBeaten x_forms_isStudy x_forms_isTest x_forms_least x_forms_nodes x_forms_order x_forms_seen x_forms_stillEdges x_forms_symmetries x_forms_sketch_colours x_forms_sketch_darks x_forms_sketch_nodes x_forms_sketch_fans x_forms_sketch_near x_keptLevels_total x_keptLevels_codes x_keptLevels_firsts x_keptRules_bannedCircles x_keptRules_endLines x_keptRules_endsJoined x_keptRules_fewestEdges x_keptRules_hasDark x_keptRules_least x_keptRules_most x_keptRules_mostEdges x_keptRules_patterns x_keptRules_ruleLines x_keptRules_size x_keptRules_unlike x_keptRules_words x_keptRules_patternCodes x_keptRules_patternNodes x_keptWalkers_allParts x_keptWalkers_depths x_keptWalkers_lists x_keptWalkers_ownParts x_levels_total x_levels_codes x_levels_firsts x_match_best x_match_code x_match_one_colours x_match_one_darks x_match_one_nodes x_match_one_fans x_match_one_near x_match_two_colours x_match_two_darks x_match_two_nodes x_match_two_fans x_match_two_near x_page_length x_page_bytes x_rules_bannedCircles x_rules_endLines x_rules_endsJoined x_rules_fewestEdges x_rules_hasDark x_rules_least x_rules_most x_rules_mostEdges x_rules_patterns x_rules_ruleLines x_rules_size x_rules_unlike x_rules_words x_rules_patternCodes x_rules_patternNodes x_sketch_colours x_sketch_darks x_sketch_nodes x_sketch_fans x_sketch_near x_tape_begun x_tape_length x_tape_position x_tape_wrong x_tape_bytes x_texts_code x_texts_nodes x_toldForms_allBits x_toldForms_firstOrder x_toldForms_isBeaten x_toldForms_isStudy x_toldForms_isTest x_toldForms_least x_toldForms_nodes x_toldForms_order x_toldForms_seen x_toldForms_stillEdges x_toldForms_symmetries x_toldForms_sketch_colours x_toldForms_sketch_darks x_toldForms_sketch_nodes x_toldForms_sketch_fans x_toldForms_sketch_near x_walkers_allParts x_walkers_depths x_walkers_lists x_walkers_ownParts hx0 hxL hI
  obtain ⟨k, hT, hK, hW, hG, hD, hO, hP⟩ := hI
  obtain ⟨hk, hw, ⟨q1, q2, q3, q4, q5, q6, q7, q8, q9, q10, q11, q12, hp⟩, hL, hU⟩ := hK
  subst q1 q2 q3 q4 q5 q6 q7 q8 q9 q10 q11 q12
  have hsz := size_le hk
  have a1 := arg_in hx0 hxL (by omega) (j := 1) (by omega)
  have a2 := arg_in hx0 hxL (by omega) (j := 2) (by omega)
  have a3 := arg_in hx0 hxL (by omega) (j := 3) (by omega)
  have a4 := arg_in hx0 hxL (by omega) (j := 4) (by omega)
  have a5 := arg_in hx0 hxL (by omega) (j := 5) (by omega)
  have o0 := vp_in_nI (n := 0) (N := 1) (by decide) (by decide)
  
  unfold F_law_c27 F_L_start F_law_c27_2129
  refine ⟨a1, a2, a3, a4, ?_⟩
  generalize xs (x4 + 1).toNatClampNeg = p0
  generalize xs (x4 + 2).toNatClampNeg = p1
  generalize xs (x4 + 3).toNatClampNeg = p2
  generalize xs (x4 + 4).toNatClampNeg = p3
  unfold F_X11_start F_X12_start F_X12_start_20 F_X12_start_44 F_X12_start_51 F_X12_thrown
  rcases node_q 3 (by decide) p0 with h | ⟨v, hv, rfl⟩
  · exact x_needWalker_n h (Or.inl ⟨rfl, a1, a2, a3, a4, f_in3_n h (br4 rfl (f_throws1 (br3 (by decide) (law_fin rfl (fun e => absurd e (by decide)) ⟨rfl, k, hT, ⟨hk, hw, ⟨rfl, rfl, rfl, rfl, rfl, rfl, rfl, rfl, rfl, rfl, rfl, rfl, hp⟩, hL, hU⟩, hW, hG, hD, hO, hP⟩))))⟩)
  · refine x_needWalker_y hv ?_
    rcases share_q hk p1 p2 p3 with h | ⟨d, p, i, h1, h2, hp1, hp9, hi, rfl, rfl, rfl⟩
    · exact x_needShare_n hk h (Or.inr ⟨rfl, a1, a2, a3, a4, f_in3_y hv (br3 (by decide) (f_throws0 (br4 rfl (f_isShare_n hk hw h (br4 rfl (f_throws1 (br2 (by decide) (law_fin rfl (fun e => absurd e (by decide)) ⟨rfl, k, hT, ⟨hk, hw, ⟨rfl, rfl, rfl, rfl, rfl, rfl, rfl, rfl, rfl, rfl, rfl, rfl, hp⟩, hL, hU⟩, hW, hG, hD, hO, hP⟩))))))))⟩)
    · refine x_needShare_y hk h1 h2 hp1 hp9 hi ?_
      unfold F_X10_give
      refine f_put hv (f_put hv (f_put hv (f_put hv (f_shareOf hk hL hv upd_in upd_in upd_in h1 h2 hp1 hp9 hi ⟨o0, a1, a2, a3, a4, f_in3_y hv (br3 (by decide) (f_throws0 (br4 rfl (f_isShare_y hk hw h1 h2 hp1 hp9 hi (br3 (by decide) (f_throws0 (br1 rfl ?_)))))))⟩))))
      refine f_walkerAt (j := 0) ⟨vp_in_nI (by omega) (by decide), f_walkerAt (j := 1) ⟨vp_in_nI (by omega) (by decide), f_walkerAt (j := 2) ⟨vp_in_nI (by omega) (by decide), f_walkerAt (j := 3) ⟨vp_in_nI (by omega) (by decide), ?_⟩⟩⟩⟩
      rw [nI_clamp (n := 18 + 4 * v + 0) (by omega), nI_clamp (n := 18 + 4 * v + 1) (by omega), nI_clamp (n := 18 + 4 * v + 2) (by omega), nI_clamp (n := 18 + 4 * v + 3) (by omega)]
      have hW2 := WkR_give hW hv h1 h2 hp1 hp9 hi
      have hw2 : WR k (upd (upd (upd (upd m_world (18 + 4 * v + 0) (nI d)) (18 + 4 * v + 1) (nI p)) (18 + 4 * v + 2) (nI i)) (18 + 4 * v + 3) 0) := WR_18 hk (fun u hu => by rw [upd_out (by omega), upd_out (by omega), upd_out (by omega), upd_out (by omega)]) hw
      refine f_walked (d := d) (p := p) (i := i) hv ?_ ?_ ?_ (f_shared hk hw2 hU h1 h2 hp1 hp9 hi (Or.inl rfl) (fun _ d1 f l nn s b o1 o2 => ?_) (fun m hm e => (nm1 hm e.symm).elim) (fun m hm e => (nm1 hm e.symm).elim))
      · rw [upd_out (by omega), upd_out (by omega), upd_out (by omega)]; exact upd_in
      · rw [upd_out (by omega), upd_out (by omega)]; exact upd_in
      · rw [upd_out (by omega)]; exact upd_in
      · exact law_fin rfl (fun _ => updL_in) ⟨rfl, k, hT, ⟨hk, hw2, ⟨rfl, rfl, rfl, rfl, rfl, rfl, rfl, rfl, rfl, rfl, rfl, rfl, hp⟩, hL, hU⟩, hW2, hG, hD, hO, hP⟩
theorem lc28 (xs : Nat → Int32) (L : Nat) (hL3 : L ≤ 3072) : LC28 xs L IInv := by
  unfold LC28
  intro x4 m_begin m_dark m_end m_faultAt m_form m_hasImage m_heldDark m_lasts m_nodes m_pairs m_point m_symmetries m_taped m_thrown m_toldEdges m_toldForm m_toldNodes m_toldSymmetries m_writtenMany m_by m_decks m_draft m_firstOrder m_five m_forms m_held m_image m_many m_order m_seen m_tape m_toldOrder m_world m_written o x_hasImage x_cycleSums_edges x_cycleSums_hasDark x_cycleSums_parts x_cycleSums_ways x_decks x_draft_bannedCircles x_draft_endLines x_draft_endsJoined x_draft_fewestEdges x_draft_hasDark x_draft_least x_draft_most x_draft_mostEdges x_draft_patterns x_draft_ruleLines x_draft_size x_draft_unlike x_draft_words x_draft_patternCodes x_draft_patternNodes x_forms_allBits x_forms_firstOrder x_forms_isBeaten x_forms_isStudy x_forms_isTest x_forms_least x_forms_nodes x_forms_order x_forms_seen x_forms_stillEdges x_forms_symmetries x_forms_sketch_colours x_forms_sketch_darks x_forms_sketch_nodes x_forms_sketch_fans x_forms_sketch_near x_keptLevels_total x_keptLevels_codes x_keptLevels_firsts x_keptRules_bannedCircles x_keptRules_endLines x_keptRules_endsJoined x_keptRules_fewestEdges x_keptRules_hasDark x_keptRules_least x_keptRules_most x_keptRules_mostEdges x_keptRules_patterns x_keptRules_ruleLines x_keptRules_size x_keptRules_unlike x_keptRules_words x_keptRules_patternCodes x_keptRules_patternNodes x_keptWalkers_allParts x_keptWalkers_depths x_keptWalkers_lists x_keptWalkers_ownParts x_levels_total x_levels_codes x_levels_firsts x_match_best x_match_code x_match_one_colours x_match_one_darks x_match_one_nodes x_match_one_fans x_match_one_near x_match_two_colours x_match_two_darks x_match_two_nodes x_match_two_fans x_match_two_near x_page_length x_page_bytes x_rules_bannedCircles x_rules_endLines x_rules_endsJoined x_rules_fewestEdges x_rules_hasDark x_rules_least x_rules_most x_rules_mostEdges x_rules_patterns x_rules_ruleLines x_rules_size x_rules_unlike x_rules_words x_rules_patternCodes x_rules_patternNodes x_sketch_colours x_sketch_darks x_sketch_nodes x_sketch_fans x_sketch_near x_tape_begun x_tape_length x_tape_position x_tape_wrong x_tape_bytes x_texts_code x_texts_nodes x_toldForms_allBits x_toldForms_firstOrder x_toldForms_isBeaten x_toldForms_isStudy x_toldForms_isTest x_toldForms_least x_toldForms_nodes x_toldForms_order x_toldForms_seen x_toldForms_stillEdges x_toldForms_symmetries x_toldForms_sketch_colours x_toldForms_sketch_darks x_toldForms_sketch_nodes x_toldForms_sketch_fans x_toldForms_sketch_near x_walkers_allParts x_walkers_depths x_walkers_lists x_walkers_ownParts hx0 hxL hI
  obtain ⟨k, hT, hK, hW, hG, hD, hO, hP⟩ := hI
  obtain ⟨hk, hw, ⟨q1, q2, q3, q4, q5, q6, q7, q8, q9, q10, q11, q12, hp⟩, hL, hU⟩ := hK
  subst q1 q2 q3 q4 q5 q6 q7 q8 q9 q10 q11 q12
  have hsz := size_le hk
  have a1 := arg_in hx0 hxL (by omega) (j := 1) (by omega)
  have a2 := arg_in hx0 hxL (by omega) (j := 2) (by omega)
  have a3 := arg_in hx0 hxL (by omega) (j := 3) (by omega)
  have a4 := arg_in hx0 hxL (by omega) (j := 4) (by omega)
  have a5 := arg_in hx0 hxL (by omega) (j := 5) (by omega)
  have o0 := vp_in_nI (n := 0) (N := 1) (by decide) (by decide)
  
  unfold F_law_c28 F_L_next F_law_c28_2185
  refine ⟨a1, ?_⟩
  generalize xs (x4 + 1).toNatClampNeg = p0
  unfold F_X11_next F_X12_next F_X12_next_20 F_X12_next_40 F_X12_next_75 F_X12_thrown F_X10_listed F_X10_setListed F_X11_listedLast F_X10_listed F_X10_depth F_X10_parts F_X10_part
  rcases node_q 3 (by decide) p0 with h | ⟨v, hv, rfl⟩
  · exact x_needWalker_n h (Or.inl ⟨rfl, a1, f_in3_n h (br4 rfl (f_throws1 (br3 (by decide) (law_fin rfl (fun e => absurd e (by decide)) ⟨rfl, k, hT, ⟨hk, hw, ⟨rfl, rfl, rfl, rfl, rfl, rfl, rfl, rfl, rfl, rfl, rfl, rfl, hp⟩, hL, hU⟩, hW, hG, hD, hO, hP⟩))))⟩)
  · refine x_needWalker_y hv ?_
    by_cases hn0 : m_world (18 + 4 * v) = 0
    · exact x_needShareOf_n hk hW hv hn0 (Or.inr ⟨rfl, a1, f_in3_y hv (br3 (by decide) (f_throws0 (br4 rfl (f_hasNone1 hW hv hn0 (f_throws1 (br2 (by decide) (law_fin rfl (fun e => absurd e (by decide)) ⟨rfl, k, hT, ⟨hk, hw, ⟨rfl, rfl, rfl, rfl, rfl, rfl, rfl, rfl, rfl, rfl, rfl, rfl, hp⟩, hL, hU⟩, hW, hG, hD, hO, hP⟩)))))))⟩)
    · obtain ⟨d, p, i, l, e1, e2, e3, e4, e5, e6, e7, e8, h1, h2, hp1, hp9, hi, hl⟩ := wk_get hk hW hv hn0
      have hls := lvl_len k (kSz k) hsz
      have hmx := shL_max k d p i
      have hNL : NL k ≤ 544 := hls
      refine x_needShareOf_y hk hW hv hn0 (f_look hv (f_shareOf hk hL hv e5 e6 e7 h1 h2 hp1 hp9 hi ?_))
      rw [e8]
      by_cases g : l < (shL k d p i).length
      · refine br1 (nI_lt g (by omega)) (f_put hv (f_look hv (f_look hv (f_look hv (f_look hv ?_)))))
        rw [nI_1, upd_in, e5, e6, e7, nI_pred]
        have hW2 := WkR_list hW hv e1 e2 e3 e5 e6 e7 h1 h2 hp1 hp9 hi (l := l + 1) (by omega)
        have hw2 : WR k (upd m_world (18 + 4 * v + 3) (nI (l + 1))) := WR_18 hk (fun u hu => by rw [upd_out (by omega)]) hw
        refine f_shareNumber hk hL h1 h2 hp1 hp9 hi (by omega) (fun x hx hP1 hc1 => ⟨o0, a1, f_in3_y hv (br3 (by decide) (f_throws0 (br4 rfl (f_hasNone0 hW hv hn0 (f_throws0 (br1 rfl (f_ofWalker (j := 3) hv (by decide) (f_walked hv e1 e2 e3 ?_))))))))⟩) (fun hc => absurd hc (by rw [← shL_len]; omega))
        rw [e4]
        refine f_shared hk hw hU h1 h2 hp1 hp9 hi (Or.inr ⟨l, by omega, rfl⟩) (fun e => (nm1 (by omega) e).elim) (fun m hm e y hy hP2 hc2 d1 f l1 nn s b o1 o2 => ?_) (fun m hm e hc => absurd hc (by rw [← shL_len]; have := ni_inj (by omega) hm e; omega))
        have em := ni_inj (by omega) hm e
        subst em
        have exy : x = y := cnt_uniq hP1 hP2 (hc1.trans hc2.symm)
        subst exy
        refine f_walkerAt (j := 3) ⟨vp_in_nI (by omega) (by decide), br3 (fun e => nm1 (m := x) (by omega) e) ⟨vp_in_nI (by omega) (by decide), ?_⟩⟩
        rw [nI_clamp (n := 18 + 4 * v + 3) (by omega), e4, nI_1]
        exact law_fin rfl (fun _ => updL_in) ⟨rfl, k, hT, ⟨hk, hw2, ⟨rfl, rfl, rfl, rfl, rfl, rfl, rfl, rfl, rfl, rfl, rfl, rfl, hp⟩, hL, hU⟩, hW2, hG, hD, hO, hP⟩
      · refine br2 (nI_nlt (by omega) (by omega)) ⟨o0, a1, f_in3_y hv (br3 (by decide) (f_throws0 (br4 rfl (f_hasNone0 hW hv hn0 (f_throws0 (br1 rfl (f_ofWalker (j := 3) hv (by decide) (f_walked hv e1 e2 e3 ?_))))))))⟩
        rw [e4]
        refine f_shared hk hw hU h1 h2 hp1 hp9 hi (Or.inr ⟨l, by omega, rfl⟩) (fun e => (nm1 (by omega) e).elim) (fun m hm e y hy hP2 hc2 => ?_) (fun m hm e hc d1 f l1 nn s b o1 o2 => ?_)
        · have em := ni_inj (by omega) hm e
          subst em
          have := cnt_le (shP k d p i) (y + 1) (NL k - (y + 1))
          rw [show y + 1 + (NL k - (y + 1)) = NL k by omega, cnt_succ, hP2, ← shL_len] at this
          have : (true).toNat = 1 := rfl
          omega
        · refine f_walkerAt (j := 3) ⟨vp_in_nI (by omega) (by decide), br4 rfl ⟨vp_in_nI (by omega) (by decide), ?_⟩⟩
          rw [nI_clamp (n := 18 + 4 * v + 3) (by omega), e4, Int32.add_zero]
          have hW2 : WkR k (upd m_world (18 + 4 * v + 3) (nI l)) x_walkers_depths x_walkers_allParts x_walkers_ownParts x_walkers_lists := WkR_congr (fun u hu => by
            by_cases c : u = 18 + 4 * v + 3
            · subst c; rw [upd_in, e4]
            · rw [upd_out c]) (fun u hu => ⟨rfl, rfl, rfl, rfl⟩) hW
          have hw2 : WR k (upd m_world (18 + 4 * v + 3) (nI l)) := WR_18 hk (fun u hu => by rw [upd_out (by omega)]) hw
          exact law_fin rfl (fun _ => updL_in) ⟨rfl, k, hT, ⟨hk, hw2, ⟨rfl, rfl, rfl, rfl, rfl, rfl, rfl, rfl, rfl, rfl, rfl, rfl, hp⟩, hL, hU⟩, hW2, hG, hD, hO, hP⟩
theorem lc29 (xs : Nat → Int32) (L : Nat) (hL3 : L ≤ 3072) : LC29 xs L IInv := by
  unfold LC29
  intro x4 m_begin m_dark m_end m_faultAt m_form m_hasImage m_heldDark m_lasts m_nodes m_pairs m_point m_symmetries m_taped m_thrown m_toldEdges m_toldForm m_toldNodes m_toldSymmetries m_writtenMany m_by m_decks m_draft m_firstOrder m_five m_forms m_held m_image m_many m_order m_seen m_tape m_toldOrder m_world m_written o x_hasImage x_cycleSums_edges x_cycleSums_hasDark x_cycleSums_parts x_cycleSums_ways x_decks x_draft_bannedCircles x_draft_endLines x_draft_endsJoined x_draft_fewestEdges x_draft_hasDark x_draft_least x_draft_most x_draft_mostEdges x_draft_patterns x_draft_ruleLines x_draft_size x_draft_unlike x_draft_words x_draft_patternCodes x_draft_patternNodes x_forms_allBits x_forms_firstOrder x_forms_isBeaten x_forms_isStudy x_forms_isTest x_forms_least x_forms_nodes x_forms_order x_forms_seen x_forms_stillEdges x_forms_symmetries x_forms_sketch_colours x_forms_sketch_darks x_forms_sketch_nodes x_forms_sketch_fans x_forms_sketch_near x_keptLevels_total x_keptLevels_codes x_keptLevels_firsts x_keptRules_bannedCircles x_keptRules_endLines x_keptRules_endsJoined x_keptRules_fewestEdges x_keptRules_hasDark x_keptRules_least x_keptRules_most x_keptRules_mostEdges x_keptRules_patterns x_keptRules_ruleLines x_keptRules_size x_keptRules_unlike x_keptRules_words x_keptRules_patternCodes x_keptRules_patternNodes x_keptWalkers_allParts x_keptWalkers_depths x_keptWalkers_lists x_keptWalkers_ownParts x_levels_total x_levels_codes x_levels_firsts x_match_best x_match_code x_match_one_colours x_match_one_darks x_match_one_nodes x_match_one_fans x_match_one_near x_match_two_colours x_match_two_darks x_match_two_nodes x_match_two_fans x_match_two_near x_page_length x_page_bytes x_rules_bannedCircles x_rules_endLines x_rules_endsJoined x_rules_fewestEdges x_rules_hasDark x_rules_least x_rules_most x_rules_mostEdges x_rules_patterns x_rules_ruleLines x_rules_size x_rules_unlike x_rules_words x_rules_patternCodes x_rules_patternNodes x_sketch_colours x_sketch_darks x_sketch_nodes x_sketch_fans x_sketch_near x_tape_begun x_tape_length x_tape_position x_tape_wrong x_tape_bytes x_texts_code x_texts_nodes x_toldForms_allBits x_toldForms_firstOrder x_toldForms_isBeaten x_toldForms_isStudy x_toldForms_isTest x_toldForms_least x_toldForms_nodes x_toldForms_order x_toldForms_seen x_toldForms_stillEdges x_toldForms_symmetries x_toldForms_sketch_colours x_toldForms_sketch_darks x_toldForms_sketch_nodes x_toldForms_sketch_fans x_toldForms_sketch_near x_walkers_allParts x_walkers_depths x_walkers_lists x_walkers_ownParts hx0 hxL hI
  obtain ⟨k, hT, hK, hW, hG, hD, hO, hP⟩ := hI
  obtain ⟨hk, hw, ⟨q1, q2, q3, q4, q5, q6, q7, q8, q9, q10, q11, q12, hp⟩, hL, hU⟩ := hK
  subst q1 q2 q3 q4 q5 q6 q7 q8 q9 q10 q11 q12
  have hsz := size_le hk
  have a1 := arg_in hx0 hxL (by omega) (j := 1) (by omega)
  have a2 := arg_in hx0 hxL (by omega) (j := 2) (by omega)
  have a3 := arg_in hx0 hxL (by omega) (j := 3) (by omega)
  have a4 := arg_in hx0 hxL (by omega) (j := 4) (by omega)
  have a5 := arg_in hx0 hxL (by omega) (j := 5) (by omega)
  have o0 := vp_in_nI (n := 0) (N := 1) (by decide) (by decide)
  
  unfold F_law_c29 F_L_walker F_law_c29_2253
  refine ⟨a1, a2, ?_⟩
  generalize xs (x4 + 1).toNatClampNeg = p0
  generalize xs (x4 + 2).toNatClampNeg = p1
  unfold F_X11_walker F_X11_walker_14 F_X12_walker F_X12_walker_20 F_X12_walker_42 F_X12_walker_62 F_X12_walker_127 F_X12_thrown F_X10_listed F_X11_listedLast F_X10_listed F_X10_depth F_X10_parts F_X10_part
  rcases node_q 3 (by decide) p0 with h | ⟨v, hv, rfl⟩
  · exact x_needWalker_n h (Or.inl ⟨rfl, a1, a2, f_in3_n h (br4 rfl (f_throws1 (br3 (by decide) (law_fin rfl (fun e => absurd e (by decide)) ⟨rfl, k, hT, ⟨hk, hw, ⟨rfl, rfl, rfl, rfl, rfl, rfl, rfl, rfl, rfl, rfl, rfl, rfl, hp⟩, hL, hU⟩, hW, hG, hD, hO, hP⟩))))⟩)
  · refine x_needWalker_y hv ?_
    rcases node_q 3 (by decide) p1 with h | ⟨q, hq, rfl⟩
    · have key : F_X12_in p1 0 2 (fun r => r = 0) := f_in3_n h rfl
      have g1 : ¬ p1 < 0 → ¬ p1 ≤ 2 := fun g0 g => by
        rcases h with h | h
        · exact g0 h
        · apply h
          rw [Int32.le_iff_toInt_le] at g
          rw [Int32.lt_iff_toInt_lt]
          have e3 : (nI 3).toInt = 3 := by decide
          have e2 : (2 : Int32).toInt = 2 := by decide
          omega
      have fin : ("java/util/NoSuchElementException" = "java/lang/IndexOutOfBoundsException" ∧ True) → False := fun e => absurd e.1 (by decide)
      refine ⟨fun _ => Or.inr (Or.inl ⟨rfl, a1, a2, ?_⟩), fun g => br2 (g1 g) (Or.inr (Or.inl ⟨rfl, a1, a2, ?_⟩))⟩
      · exact f_in3_y hv (br3 (by decide) (f_throws0 (br4 rfl (f_in3_n h (br4 rfl (f_throws1 (br3 (by decide) (law_fin rfl (fun e => absurd e (by decide)) ⟨rfl, k, hT, ⟨hk, hw, ⟨rfl, rfl, rfl, rfl, rfl, rfl, rfl, rfl, rfl, rfl, rfl, rfl, hp⟩, hL, hU⟩, hW, hG, hD, hO, hP⟩))))))))
      · exact f_in3_y hv (br3 (by decide) (f_throws0 (br4 rfl (f_in3_n h (br4 rfl (f_throws1 (br3 (by decide) (law_fin rfl (fun e => absurd e (by decide)) ⟨rfl, k, hT, ⟨hk, hw, ⟨rfl, rfl, rfl, rfl, rfl, rfl, rfl, rfl, rfl, rfl, rfl, rfl, hp⟩, hL, hU⟩, hW, hG, hD, hO, hP⟩))))))))
    · refine br2 (nI_pos (by omega)) (br1 (nI_le (b := 2) (by omega) (by decide)) ?_)
      by_cases hn0 : m_world (18 + 4 * v) = 0
      · exact x_needShareOf_n hk hW hv hn0 (Or.inr (Or.inr ⟨rfl, a1, a2, f_in3_y hv (br3 (by decide) (f_throws0 (br4 rfl (f_in3_y hq (br3 (by decide) (f_throws0 (br4 rfl (f_hasNone1 hW hv hn0 (f_throws1 (br2 (by decide) (law_fin rfl (fun e => absurd e (by decide)) ⟨rfl, k, hT, ⟨hk, hw, ⟨rfl, rfl, rfl, rfl, rfl, rfl, rfl, rfl, rfl, rfl, rfl, rfl, hp⟩, hL, hU⟩, hW, hG, hD, hO, hP⟩)))))))))))⟩))
      · obtain ⟨d, p, i, l, e1, e2, e3, e4, e5, e6, e7, e8, h1, h2, hp1, hp9, hi, hl⟩ := wk_get hk hW hv hn0
        have hls := lvl_len k (kSz k) hsz
        have hmx := shL_max k d p i
        have hNL : NL k ≤ 544 := hls
        refine x_needShareOf_y hk hW hv hn0 ?_
        rcases (by omega : q = 0 ∨ q = 1 ∨ q = 2) with rfl | rfl | rfl
        · refine ⟨fun _ => f_look hv ⟨o0, a1, a2, f_in3_y hv (br3 (by decide) (f_throws0 (br4 rfl (f_in3_y (by decide) (br3 (by decide) (f_throws0 (br4 rfl (f_hasNone0 hW hv hn0 (f_throws0 (br1 rfl (f_ofWalker (j := 3) hv (by decide) ⟨fun _ => ?_, fun e => absurd e (by decide), fun e => absurd rfl e⟩)))))))))))⟩, fun e => absurd e (by decide), fun e => absurd rfl e⟩
          rw [e4, e8]
          exact law_fin rfl (fun _ => updL_in) ⟨rfl, k, hT, ⟨hk, hw, ⟨rfl, rfl, rfl, rfl, rfl, rfl, rfl, rfl, rfl, rfl, rfl, rfl, hp⟩, hL, hU⟩, hW, hG, hD, hO, hP⟩
        · refine ⟨fun e => absurd e (by decide), fun _ => f_shareOf hk hL hv e5 e6 e7 h1 h2 hp1 hp9 hi (f_look hv ⟨o0, a1, a2, f_in3_y hv (br3 (by decide) (f_throws0 (br4 rfl (f_in3_y (by decide) (br3 (by decide) (f_throws0 (br4 rfl (f_hasNone0 hW hv hn0 (f_throws0 (br1 rfl (f_ofWalker (j := 3) hv (by decide) ⟨fun e => absurd e (by decide), fun _ => f_walked hv e1 e2 e3 (f_shared hk hw hU h1 h2 hp1 hp9 hi (Or.inl rfl) (fun _ d1 f l nn s b o1 o2 => ?_) (fun m hm e => (nm1 hm e.symm).elim) (fun m hm e => (nm1 hm e.symm).elim)), fun _ e => absurd rfl e⟩)))))))))))⟩), fun _ e => absurd rfl e⟩
          rw [e4, e8]
          exact law_fin rfl (fun _ => updL_in) ⟨rfl, k, hT, ⟨hk, hw, ⟨rfl, rfl, rfl, rfl, rfl, rfl, rfl, rfl, rfl, rfl, rfl, rfl, hp⟩, hL, hU⟩, hW, hG, hD, hO, hP⟩
        · refine ⟨fun e => absurd e (by decide), fun e => absurd e (by decide), fun _ _ => f_look hv (f_look hv (f_look hv (f_look hv ?_)))⟩
          rw [e5, e6, e7, e8]
          by_cases hl0 : l = 0
          · subst hl0
            refine f_shareNumber0 hk hL h1 h2 hp1 hp9 hi ⟨o0, a1, a2, f_in3_y hv (br3 (by decide) (f_throws0 (br4 rfl (f_in3_y (by decide) (br3 (by decide) (f_throws0 (br4 rfl (f_hasNone0 hW hv hn0 (f_throws0 (br1 rfl (f_ofWalker (j := 3) hv (by decide) ⟨fun e => absurd e (by decide), fun e => absurd e (by decide), fun _ _ => br4 e4 ?_⟩)))))))))))⟩
            exact law_fin rfl (fun _ => updL_in) ⟨rfl, k, hT, ⟨hk, hw, ⟨rfl, rfl, rfl, rfl, rfl, rfl, rfl, rfl, rfl, rfl, rfl, rfl, hp⟩, hL, hU⟩, hW, hG, hD, hO, hP⟩
          · obtain ⟨l, rfl⟩ : ∃ l', l = l' + 1 := ⟨l - 1, by omega⟩
            rw [nI_pred]
            refine f_shareNumber hk hL h1 h2 hp1 hp9 hi (by omega) (fun x hx hP1 hc1 => ⟨o0, a1, a2, f_in3_y hv (br3 (by decide) (f_throws0 (br4 rfl (f_in3_y (by decide) (br3 (by decide) (f_throws0 (br4 rfl (f_hasNone0 hW hv hn0 (f_throws0 (br1 rfl (f_ofWalker (j := 3) hv (by decide) ⟨fun e => absurd e (by decide), fun e => absurd e (by decide), fun _ _ => br3 (by rw [e4]; exact nI_ne0 (by omega) (by omega)) (f_walked hv e1 e2 e3 ?_)⟩)))))))))))⟩) (fun hc => absurd hc (by rw [← shL_len]; omega))
            rw [e4, nI_pred]
            refine f_shared hk hw hU h1 h2 hp1 hp9 hi (Or.inr ⟨l, by omega, rfl⟩) (fun e => (nm1 (by omega) e).elim) (fun m hm e y hy hP2 hc2 d1 f l1 nn s b o1 o2 => ?_) (fun m hm e hc => absurd hc (by rw [← shL_len]; have := ni_inj (by omega) hm e; omega))
            have em := ni_inj (by omega) hm e
            subst em
            have exy : x = y := cnt_uniq hP1 hP2 (hc1.trans hc2.symm)
            subst exy
            exact law_fin rfl (fun _ => updL_in) ⟨rfl, k, hT, ⟨hk, hw, ⟨rfl, rfl, rfl, rfl, rfl, rfl, rfl, rfl, rfl, rfl, rfl, rfl, hp⟩, hL, hU⟩, hW, hG, hD, hO, hP⟩
theorem lc30 (xs : Nat → Int32) (L : Nat) (hL3 : L ≤ 3072) : LC30 xs L IInv := by
  unfold LC30
  intro x4 m_begin m_dark m_end m_faultAt m_form m_hasImage m_heldDark m_lasts m_nodes m_pairs m_point m_symmetries m_taped m_thrown m_toldEdges m_toldForm m_toldNodes m_toldSymmetries m_writtenMany m_by m_decks m_draft m_firstOrder m_five m_forms m_held m_image m_many m_order m_seen m_tape m_toldOrder m_world m_written o x_hasImage x_cycleSums_edges x_cycleSums_hasDark x_cycleSums_parts x_cycleSums_ways x_decks x_draft_bannedCircles x_draft_endLines x_draft_endsJoined x_draft_fewestEdges x_draft_hasDark x_draft_least x_draft_most x_draft_mostEdges x_draft_patterns x_draft_ruleLines x_draft_size x_draft_unlike x_draft_words x_draft_patternCodes x_draft_patternNodes x_forms_allBits x_forms_firstOrder x_forms_isBeaten x_forms_isStudy x_forms_isTest x_forms_least x_forms_nodes x_forms_order x_forms_seen x_forms_stillEdges x_forms_symmetries x_forms_sketch_colours x_forms_sketch_darks x_forms_sketch_nodes x_forms_sketch_fans x_forms_sketch_near x_keptLevels_total x_keptLevels_codes x_keptLevels_firsts x_keptRules_bannedCircles x_keptRules_endLines x_keptRules_endsJoined x_keptRules_fewestEdges x_keptRules_hasDark x_keptRules_least x_keptRules_most x_keptRules_mostEdges x_keptRules_patterns x_keptRules_ruleLines x_keptRules_size x_keptRules_unlike x_keptRules_words x_keptRules_patternCodes x_keptRules_patternNodes x_keptWalkers_allParts x_keptWalkers_depths x_keptWalkers_lists x_keptWalkers_ownParts x_levels_total x_levels_codes x_levels_firsts x_match_best x_match_code x_match_one_colours x_match_one_darks x_match_one_nodes x_match_one_fans x_match_one_near x_match_two_colours x_match_two_darks x_match_two_nodes x_match_two_fans x_match_two_near x_page_length x_page_bytes x_rules_bannedCircles x_rules_endLines x_rules_endsJoined x_rules_fewestEdges x_rules_hasDark x_rules_least x_rules_most x_rules_mostEdges x_rules_patterns x_rules_ruleLines x_rules_size x_rules_unlike x_rules_words x_rules_patternCodes x_rules_patternNodes x_sketch_colours x_sketch_darks x_sketch_nodes x_sketch_fans x_sketch_near x_tape_begun x_tape_length x_tape_position x_tape_wrong x_tape_bytes x_texts_code x_texts_nodes x_toldForms_allBits x_toldForms_firstOrder x_toldForms_isBeaten x_toldForms_isStudy x_toldForms_isTest x_toldForms_least x_toldForms_nodes x_toldForms_order x_toldForms_seen x_toldForms_stillEdges x_toldForms_symmetries x_toldForms_sketch_colours x_toldForms_sketch_darks x_toldForms_sketch_nodes x_toldForms_sketch_fans x_toldForms_sketch_near x_walkers_allParts x_walkers_depths x_walkers_lists x_walkers_ownParts hx0 hxL hI
  obtain ⟨k, hT, hK, hW, hG, hD, hO, hP⟩ := hI
  obtain ⟨hk, hw, ⟨q1, q2, q3, q4, q5, q6, q7, q8, q9, q10, q11, q12, hp⟩, hL, hU⟩ := hK
  subst q1 q2 q3 q4 q5 q6 q7 q8 q9 q10 q11 q12
  have hsz := size_le hk
  have a1 := arg_in hx0 hxL (by omega) (j := 1) (by omega)
  have a2 := arg_in hx0 hxL (by omega) (j := 2) (by omega)
  have a3 := arg_in hx0 hxL (by omega) (j := 3) (by omega)
  have a4 := arg_in hx0 hxL (by omega) (j := 4) (by omega)
  have a5 := arg_in hx0 hxL (by omega) (j := 5) (by omega)
  have o0 := vp_in_nI (n := 0) (N := 1) (by decide) (by decide)
  
  unfold F_law_c30 F_L_resume F_law_c30_2321
  refine ⟨a1, a2, ?_⟩
  generalize xs (x4 + 1).toNatClampNeg = p0
  generalize xs (x4 + 2).toNatClampNeg = p1
  unfold F_X11_resume F_X11_resume_23 F_X12_resume F_X12_resume_20 F_X12_resume_60 F_X12_resume_67 F_X12_thrown F_X10_listed F_X10_setListed
  rcases node_q 3 (by decide) p0 with h | ⟨v, hv, rfl⟩
  · exact x_needWalker_n h (Or.inl ⟨rfl, a1, a2, f_in3_n h (br4 rfl (f_throws1 (br3 (by decide) (law_fin rfl (fun e => absurd e (by decide)) ⟨rfl, k, hT, ⟨hk, hw, ⟨rfl, rfl, rfl, rfl, rfl, rfl, rfl, rfl, rfl, rfl, rfl, rfl, hp⟩, hL, hU⟩, hW, hG, hD, hO, hP⟩))))⟩)
  · refine x_needWalker_y hv ?_
    by_cases hn0 : m_world (18 + 4 * v) = 0
    · exact x_needShareOf_n hk hW hv hn0 (Or.inr (Or.inl ⟨rfl, a1, a2, f_in3_y hv (br3 (by decide) (f_throws0 (br4 rfl (f_hasNone1 hW hv hn0 (f_throws1 (br3 (by decide) (law_fin rfl (fun e => absurd e (by decide)) ⟨rfl, k, hT, ⟨hk, hw, ⟨rfl, rfl, rfl, rfl, rfl, rfl, rfl, rfl, rfl, rfl, rfl, rfl, hp⟩, hL, hU⟩, hW, hG, hD, hO, hP⟩)))))))⟩))
    · obtain ⟨d, p, i, l, e1, e2, e3, e4, e5, e6, e7, e8, h1, h2, hp1, hp9, hi, hl⟩ := wk_get hk hW hv hn0
      have hls := lvl_len k (kSz k) hsz
      have hmx := shL_max k d p i
      have hNL : NL k ≤ 544 := hls
      refine x_needShareOf_y hk hW hv hn0 ?_
      rcases rng p1 (a := 0) (b := (shL k d p i).length) (by decide) (by omega) with h | ⟨m, _, hm, rfl⟩
      · have g1 : ¬ p1 < 0 → ¬ p1 ≤ nI (shL k d p i).length := fun g0 g => by
          rcases h with h | h
          · exact g0 h
          · rw [Int32.le_iff_toInt_le] at g
            rw [Int32.lt_iff_toInt_lt] at h
            omega
        refine ⟨fun _ => Or.inr (Or.inr ⟨rfl, a1, a2, ?_⟩), fun g => f_shareOf hk hL hv e5 e6 e7 h1 h2 hp1 hp9 hi (br2 (g1 g) (Or.inr (Or.inr ⟨rfl, a1, a2, ?_⟩)))⟩
        · refine f_in3_y hv (br3 (by decide) (f_throws0 (br4 rfl (f_hasNone0 hW hv hn0 (f_throws0 (br4 rfl (f_walked hv e1 e2 e3 (f_shared hk hw hU h1 h2 hp1 hp9 hi (Or.inl rfl) (fun _ d1 f l nn s b o1 o2 => f_in_n h (br4 rfl (f_throws1 (br2 (by decide) ?_)))) (fun m hm e => (nm1 hm e.symm).elim) (fun m hm e => (nm1 hm e.symm).elim)))))))))
          exact law_fin rfl (fun e => absurd e (by decide)) ⟨rfl, k, hT, ⟨hk, hw, ⟨rfl, rfl, rfl, rfl, rfl, rfl, rfl, rfl, rfl, rfl, rfl, rfl, hp⟩, hL, hU⟩, hW, hG, hD, hO, hP⟩
        · refine f_in3_y hv (br3 (by decide) (f_throws0 (br4 rfl (f_hasNone0 hW hv hn0 (f_throws0 (br4 rfl (f_walked hv e1 e2 e3 (f_shared hk hw hU h1 h2 hp1 hp9 hi (Or.inl rfl) (fun _ d1 f l nn s b o1 o2 => f_in_n h (br4 rfl (f_throws1 (br2 (by decide) ?_)))) (fun m hm e => (nm1 hm e.symm).elim) (fun m hm e => (nm1 hm e.symm).elim)))))))))
          exact law_fin rfl (fun e => absurd e (by decide)) ⟨rfl, k, hT, ⟨hk, hw, ⟨rfl, rfl, rfl, rfl, rfl, rfl, rfl, rfl, rfl, rfl, rfl, rfl, hp⟩, hL, hU⟩, hW, hG, hD, hO, hP⟩
      · have hW2 := WkR_list hW hv e1 e2 e3 e5 e6 e7 h1 h2 hp1 hp9 hi (l := m) hm
        have hw2 : WR k (upd m_world (18 + 4 * v + 3) (nI m)) := WR_18 hk (fun u hu => by rw [upd_out (by omega)]) hw
        refine br2 (nI_pos (by omega)) (f_shareOf hk hL hv e5 e6 e7 h1 h2 hp1 hp9 hi (br1 (nI_le hm (by omega)) (f_look hv (f_put hv ⟨o0, a1, a2, f_in3_y hv (br3 (by decide) (f_throws0 (br4 rfl (f_hasNone0 hW hv hn0 (f_throws0 (br4 rfl (f_walked hv e1 e2 e3 (f_shared hk hw hU h1 h2 hp1 hp9 hi (Or.inl rfl) (fun _ d1 f l1 nn s b o1 o2 => f_in_y (a := 0) (by omega) hm (by omega) (br3 (by decide) (f_throws0 (br1 rfl (f_ofWalker (j := 3) hv (by decide) (f_walkerAt (j := 3) ⟨vp_in_nI (by omega) (by decide), ?_⟩)))))) (fun m hm e => (nm1 hm e.symm).elim) (fun m hm e => (nm1 hm e.symm).elim)))))))))⟩))))
        rw [nI_clamp (n := 18 + 4 * v + 3) (by omega), e4, e8]
        exact law_fin rfl (fun _ => updL_in) ⟨rfl, k, hT, ⟨hk, hw2, ⟨rfl, rfl, rfl, rfl, rfl, rfl, rfl, rfl, rfl, rfl, rfl, rfl, hp⟩, hL, hU⟩, hW2, hG, hD, hO, hP⟩
