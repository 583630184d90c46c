/-! nets without rules, by the cycles of all orders -/
theorem ln_add2 (a b : Nat) : lN a + lN b = lN (a + b) := (Int64.ofNat_add a b).symm
theorem ln_mul2 (a b : Nat) : lN a * lN b = lN (a * b) := (Int64.ofNat_mul a b).symm
theorem ln_div2 {a b : Nat} (ha : a < 2 ^ 63) (hb : b < 2 ^ 63) (h0 : 0 < b) : lN a / lN b = lN (a / b) := by
  apply Int64.toInt_inj.mp
  have hd : a / b ≤ a := Nat.div_le_self _ _
  rw [lg_ldiv_nonneg (by rw [ln_toInt ha]; omega) (by rw [ln_toInt hb]; omega), ln_toInt ha, ln_toInt hb, ln_toInt (by omega)]
  rfl
theorem ni_mod {a b : Nat} (ha : a < 2 ^ 31) (hb : b < 2 ^ 31) (h0 : 0 < b) : nI a - nI a / nI b * nI b = nI (a % b) := by
  have em : a - a / b * b = a % b := by
    have := Nat.div_add_mod a b
    rw [Nat.mul_comm] at this
    omega
  rw [ni_div ha hb h0, ni_mul, ni_sub (Nat.div_mul_le_self _ _), em]
def wyA (p : Nat) (w : List Nat) : List Nat := if p = 0 then w else (List.range 16).map (fun e => w.getD e 0 + (if p ≤ e then w.getD (e - p) 0 else 0))
def wyC : Nat → Nat → List Nat → List Nat
  | 0, _, w => w
  | a + 1, p, w => wyC a p (wyA p w)
def WY (w : List Nat) (ways : Nat → Int64) : Prop := ∀ x, x < 16 → ways x = lN (w.getD x 0)
theorem ac_16 {p : Nat} (hp : p < 100) {w : List Nat} {x1 : Int32} {i : Nat} {post : (Nat → Int64) → Prop} {K2 : Int32 → Int32 → Int32 → (Nat → Int64) → Prop} (K : ∀ ways, WY (wyA p w) ways → K2 x1 (nI p) (nI (i + 1)) ways) (h0 : 0 < p) : ∀ e ways, e < 16 → (∀ x, e < x → x < 16 → ways x = lN ((wyA p w).getD x 0)) → (∀ x, x ≤ e → ways x = lN (w.getD x 0)) → F_X1_addCycles_16 post K2 (e + 1) x1 (nI p) (nI i) (nI e) ways := by
  have hget : ∀ x, x < 16 → (wyA p w).getD x 0 = w.getD x 0 + (if p ≤ x then w.getD (x - p) 0 else 0) := fun x hx => by
    unfold wyA
    rw [if_neg (by omega), map_at hx]
  have stop : ∀ e ways, e < 16 → (∀ x, e < x → x < 16 → ways x = lN ((wyA p w).getD x 0)) → (∀ x, x ≤ e → ways x = lN (w.getD x 0)) → e < p → WY (wyA p w) ways := by
    intro e ways he h1 h2 hep x hx
    by_cases c : x ≤ e
    · rw [h2 x c, hget x hx, if_neg (by omega), Nat.add_zero]
    · exact h1 x (by omega) hx
  intro e
  induction e with
  | zero =>
    intro ways he h1 h2
    unfold F_X1_addCycles_16 F_X1_addCycles_51
    refine br1 (nI_lt (by omega) (by omega)) ?_
    rw [nI_1]
    exact K _ (stop 0 ways he h1 h2 h0)
  | succ e ih =>
    intro ways he h1 h2
    unfold F_X1_addCycles_16 F_X1_addCycles_51
    rw [nI_1]
    by_cases c : e + 1 < p
    · exact br1 (nI_lt c (by omega)) (K _ (stop _ ways he h1 h2 c))
    · refine br2 (nI_nlt (by omega) (by omega)) (br2 (nI_nle (by omega) (by omega)) ⟨vp_in_nI (by omega) (by decide), ?_⟩)
      rw [ni_sub (by omega), ni_dec]
      refine ⟨vp_in_nI (by omega) (by decide), vp_in_nI (by omega) (by decide), ?_⟩
      rw [nI_clamp (by omega), nI_clamp (by omega), h2 _ (Nat.le_refl _), h2 _ (by omega), ln_add2]
      refine ih _ (by omega) (fun x a b => ?_) (fun x a => ?_)
      · by_cases g : x = e + 1
        · subst g
          rw [updL_in, hget _ b, if_pos (by omega)]
        · rw [updL_out g]
          exact h1 x (by omega) b
      · rw [updL_out (by omega)]
        exact h2 x (by omega)
theorem f_addCycles {a p : Nat} (ha : a < 100) (hp : p < 100) {post : (Nat → Int64) → Prop} {w : List Nat} {ways : Nat → Int64} (hw : WY w ways) (K : ∀ ways, WY (wyC a p w) ways → post ways) : F_X1_addCycles ways (nI a) (nI p) post := by
  unfold F_X1_addCycles
  refine ⟨a + 1, ?_⟩
  have main : ∀ r i w ways, i + r = a → WY w ways → (∀ ways, WY (wyC r p w) ways → post ways) → F_X1_addCycles_2 post (r + 1) (nI a) (nI p) (nI i) ways := by
    intro r
    induction r with
    | zero =>
      intro i w ways hi hw K
      unfold F_X1_addCycles_2
      exact br1 (nI_le (by omega) (by omega)) (K _ hw)
    | succ r ih =>
      intro i w ways hi hw K
      unfold F_X1_addCycles_2
      refine br2 (nI_ge (by omega) (by omega)) ?_
      by_cases h0 : p = 0
      · subst h0
        refine ⟨1, ?_⟩
        unfold F_X1_addCycles_16 F_X1_addCycles_51
        refine br2 (by decide) (br1 (by decide) ?_)
        rw [nI_1]
        exact ih (i + 1) w ways (by omega) hw K
      · exact ⟨16, ac_16 hp (fun ways h => ih (i + 1) _ ways (by omega) h K) (by omega) 15 ways (by decide) (fun x a b => by omega) (fun x hx => hw x (by omega))⟩
  exact main a 0 w ways (by omega) hw K
def cdF (a b : Nat) : Nat → Nat
  | 0 => 1
  | d + 1 => if d = 0 then 1 else if a % (d + 1) = 0 ∧ b % (d + 1) = 0 then d + 1 else cdF a b d
theorem cdF_le (a b : Nat) : ∀ d, 1 ≤ cdF a b d ∧ cdF a b d ≤ d + 1
  | 0 => ⟨Nat.le_refl _, Nat.le_refl _⟩
  | d + 1 => by
    have := cdF_le a b d
    rw [cdF]
    split
    · omega
    · split <;> omega
theorem f_commonDivisor {a b : Nat} (ha : a < 100) (hb : b < 100) {post : Int32 → Prop} (K : post (nI (cdF a b (min a b)))) : F_X1_commonDivisor (nI a) (nI b) post := by
  unfold F_X1_commonDivisor
  rw [nI_min (by omega) (by omega)]
  refine ⟨min a b + 1, ?_⟩
  have main : ∀ d, d < 100 → post (nI (cdF a b d)) → F_X1_commonDivisor_6 post (d + 1) (nI a) (nI b) (nI d) := by
    intro d
    induction d with
    | zero =>
      intro _ K
      unfold F_X1_commonDivisor_6
      exact br1 (by decide) K
    | succ d ih =>
      intro hd K
      rw [cdF] at K
      unfold F_X1_commonDivisor_6 F_X1_commonDivisor_25
      by_cases h0 : d = 0
      · subst h0
        exact br1 (by decide) K
      · rw [if_neg h0] at K
        have ne : ¬ nI (d + 1) = 0 := nI_ne0 (by omega) (by omega)
        have hma : a % (d + 1) ≤ a := Nat.mod_le _ _
        have hmb : b % (d + 1) ≤ b := Nat.mod_le _ _
        refine br2 (nI_ge (a := 1) (by omega) (by omega)) ⟨ne, ?_⟩
        rw [ni_mod (by omega) (by omega) (by omega), ni_mod (by omega) (by omega) (by omega), ni_dec]
        by_cases c1 : a % (d + 1) = 0
        · refine br4 (by rw [c1]; rfl) ⟨ne, ?_⟩
          by_cases c2 : b % (d + 1) = 0
          · rw [if_pos ⟨c1, c2⟩] at K
            exact br4 (by rw [c2]; rfl) K
          · rw [if_neg (fun g => c2 g.2)] at K
            exact br3 (nI_ne0 (by omega) (by omega)) (ih (by omega) K)
        · rw [if_neg (fun g => c1 g.1)] at K
          exact br3 (nI_ne0 (by omega) (by omega)) (ih (by omega) K)
  exact main _ (by omega) K
def PW (P : List Nat) (parts : Nat → Int32) : Prop := ∀ i, i < P.length → parts i = nI (P.getD i 0) ∧ 1 ≤ P.getD i 0 ∧ P.getD i 0 ≤ 6
theorem f_partAt {P : List Nat} {parts : Nat → Int32} (h6 : P.length ≤ 6) (hP : PW P parts) {i : Nat} (hi : i < P.length) {post : Int32 → Prop} (K : post (nI (P.getD i 0))) : F_X1_partAt parts (nI i) post := by
  unfold F_X1_partAt F_X1_partAt_23
  refine br2 (nI_pos (by omega)) (br2 (nI_ge (b := 6) (by omega) (by decide)) ⟨vp_in_nI (by omega) (by decide), ?_⟩)
  rw [nI_clamp (by omega), (hP i hi).1]
  exact K
def eqN (P : List Nat) (i e : Nat) : Nat := if i = 0 then 1 else if P.getD i 0 = P.getD (i - 1) 0 then e + 1 else 1
def alS (P : List Nat) : Nat → Nat → Nat → Nat → Nat
  | 0, _, _, s => s
  | j + 1, i, e, s => alS P j (i + 1) (eqN P i e) (s * (P.getD i 0 * eqN P i e))
theorem f_alike {P : List Nat} {parts : Nat → Int32} (h6 : P.length ≤ 6) (hP : PW P parts) {f : Nat} (hf : f < 2 ^ 62) {post : Int64 → Prop} (K : post (lN (f / alS P P.length 0 0 1))) : F_X1_alike parts (nI P.length) (lN f) post := by
  unfold F_X1_alike
  refine ⟨P.length + 1, ?_⟩
  have main : ∀ j i e s, i + j = P.length → e ≤ i → 1 ≤ s → s ≤ 36 ^ i → post (lN (f / alS P j i e s)) → F_X1_alike_9 parts post (j + 1) (nI P.length) (lN f) (lN s) (nI e) (nI i) := by
    intro j
    induction j with
    | zero =>
      intro i e s hi he h1 hs K
      have h36 : (36 : Nat) ^ i ≤ 36 ^ 6 := Nat.pow_le_pow_right (by decide) (by omega)
      have h36' : (36 : Nat) ^ 6 < 2 ^ 62 := by decide
      unfold F_X1_alike_9 F_X1_alike_83
      have hpos : ¬ lg_cmp (lN s) (0 : Int64) ≤ 0 := by
        rw [lg_cmp_le, Int64.le_iff_toInt_le, ln_toInt (by omega)]
        have : (0 : Int64).toInt = 0 := by decide
        omega
      have hne : ¬ lN s = 0 := fun g => by
        have := (ln_inj (a := s) (b := 0) (by omega) (by decide)).mp g
        omega
      refine br1 (nI_le (by omega) (by omega)) (br2 hpos ⟨hne, ?_⟩)
      rw [ln_div2 (by omega) (by omega) (by omega)]
      exact K
    | succ j ih =>
      intro i e s hi he h1 hs K
      rw [alS] at K
      obtain ⟨_, p1, p2⟩ := hP i (by omega)
      have he2 : 1 ≤ eqN P i e ∧ eqN P i e ≤ i + 1 := by
        unfold eqN
        split
        · omega
        · split <;> omega
      have next : F_X1_alike_45 parts post (F_X1_alike_9 parts post (j + 1)) (nI P.length) (lN f) (lN s) (nI i) (nI (eqN P i e)) := by
        unfold F_X1_alike_45
        refine f_partAt h6 hP (by omega) ?_
        have hmul : P.getD i 0 * eqN P i e ≤ 6 * 6 := Nat.mul_le_mul p2 (by omega)
        have hmul1 : 1 * 1 ≤ P.getD i 0 * eqN P i e := Nat.mul_le_mul p1 he2.1
        rw [ni_mul, nI_l (by omega), ln_mul2, nI_1]
        refine ih (i + 1) _ _ (by omega) he2.2 ?_ ?_ K
        · exact Nat.mul_le_mul h1 hmul1
        · rw [Nat.pow_succ]
          exact Nat.mul_le_mul hs hmul
      unfold F_X1_alike_9 F_X1_alike_44
      refine br2 (nI_ge (by omega) (by omega)) ?_
      by_cases c0 : i = 0
      · have e1 : eqN P i e = 1 := by unfold eqN; rw [if_pos c0]
        rw [e1] at next
        exact br1 (by rw [c0]; decide) next
      · obtain ⟨i', rfl⟩ : ∃ i', i = i' + 1 := ⟨i - 1, by omega⟩
        refine br2 (nI_nle (by omega) (by omega)) (f_partAt h6 hP (by omega) ?_)
        rw [nI_pred]
        obtain ⟨_, p3, p4⟩ := hP i' (by omega)
        refine f_partAt h6 hP (by omega) ?_
        by_cases c1 : P.getD (i' + 1) 0 = P.getD i' 0
        · have e1 : eqN P (i' + 1) e = e + 1 := by unfold eqN; rw [if_neg c0, Nat.add_sub_cancel, if_pos c1]
          rw [e1] at next
          refine br4 (by rw [c1]) ?_
          rw [nI_1]
          exact next
        · have e1 : eqN P (i' + 1) e = 1 := by unfold eqN; rw [if_neg c0, Nat.add_sub_cancel, if_neg c1]
          rw [e1] at next
          exact br3 (fun g => c1 (ni_inj (by omega) (by omega) g)) next
  exact main P.length 0 0 1 (by omega) (Nat.le_refl _) (Nat.le_refl _) (Nat.le_refl _) K
def fxJ (P : List Nat) (part : Nat) : Nat → Nat → List Nat → List Nat
  | 0, _, w => w
  | r + 1, j, w => fxJ P part r (j + 1) (wyC (cdF part (P.getD j 0) (min part (P.getD j 0))) (part / cdF part (P.getD j 0) (min part (P.getD j 0)) * P.getD j 0) w)
def fxI (P : List Nat) : Nat → Nat → List Nat → List Nat
  | 0, _, w => w
  | r + 1, i, w => fxI P r (i + 1) (fxJ P (P.getD i 0) i 0 (wyC (if P.getD i 0 % 2 = 0 then 1 else 0) (P.getD i 0 / 2) (wyC ((P.getD i 0 - 1) / 2) (P.getD i 0) w)))
def smW (w : List Nat) (e : Option Nat) : Nat → Nat
  | 0 => 0
  | x + 1 => smW w e x + (if e = none ∨ e = some x then w.getD x 0 else 0)
def w0L : List Nat := [1, 0, 0, 0, 0, 0, 0, 0, 0, 0, 0, 0, 0, 0, 0, 0]
def fxN (P : List Nat) (e : Option Nat) (dk : Bool) : Nat := if dk then smW (fxI P P.length 0 w0L) e 16 * 2 ^ P.length else smW (fxI P P.length 0 w0L) e 16
theorem f_fixedNets {P : List Nat} {parts : Nat → Int32} (h6 : P.length ≤ 6) (hP : PW P parts) {e : Option Nat} (he : ∀ x, e = some x → x ≤ 15) {dk : Bool} {ways : Nat → Int64} {post : Int64 → (Nat → Int64) → Prop} (K : ∀ ways, post (lN (fxN P e dk)) ways) : F_X1_fixedNets (oI e) (nI dk.toNat) parts ways (nI P.length) post := by
  have sums : ∀ r x w ways, x + r = 16 → WY w ways → w = fxI P P.length 0 w0L → F_X1_fixedNets_120 (oI e) (nI dk.toNat) parts post (r + 1) (nI P.length) (lN (smW w e x)) (nI x) ways := by
    intro r
    induction r with
    | zero =>
      intro x w ways hx hw hw2
      have : x = 16 := by omega
      subst this
      unfold F_X1_fixedNets_120 F_X1_fixedNets_181
      refine br1 (by decide) ?_
      have hK := K ways
      unfold fxN at hK
      rw [← hw2] at hK
      cases dk with
      | false =>
        rw [if_neg (by decide)] at hK
        exact br1 rfl hK
      | true =>
        rw [if_pos rfl] at hK
        refine br2 (by decide) ?_
        rw [ln_shl _ (by omega)]
        exact hK
    | succ r ih =>
      intro x w ways hx hw hw2
      have ih := ih (x + 1) w ways (by omega) hw hw2
      rw [smW] at ih
      unfold F_X1_fixedNets_120 F_X1_fixedNets_148 F_X1_fixedNets_159
      refine br2 (nI_ge (b := 16) (by omega) (by decide)) ?_
      rw [nI_clamp (by omega), hw x (by omega)]
      cases e with
      | none =>
        rw [if_pos (Or.inl rfl)] at ih
        refine br1 rfl ⟨vp_in_nI (by omega) (by decide), ?_⟩
        dsimp only
        rw [ln_add2, nI_1]
        exact ih
      | some y =>
        have hy := he y rfl
        refine br2 (fun g => nm1 (m := y) (by omega) g) ?_
        by_cases c : y = x
        · subst c
          rw [if_pos (Or.inr rfl)] at ih
          refine br4 rfl ⟨vp_in_nI (by omega) (by decide), ?_⟩
          dsimp only
          rw [ln_add2, nI_1]
          exact ih
        · rw [if_neg (fun g => by rcases g with g | g; exact absurd g (by simp); exact c (Option.some.inj g)), Nat.add_zero] at ih
          refine br3 (fun g => c (ni_inj (by omega) (by omega) g)) ?_
          rw [nI_1, show lN (smW w (some y) x) + 0 = lN (smW w (some y) x) from Int64.add_zero _]
          exact ih
  have main : ∀ r i w ways, i + r = P.length → WY w ways → fxI P r i w = fxI P P.length 0 w0L → F_X1_fixedNets_17 (oI e) (nI dk.toNat) parts post (r + 1) (nI P.length) (nI i) ways := by
    intro r
    induction r with
    | zero =>
      intro i w ways hi hw hw2
      unfold F_X1_fixedNets_17
      exact br1 (nI_le (by omega) (by omega)) ⟨17, sums 16 0 w ways (by omega) hw hw2⟩
    | succ r ih =>
      intro i w ways hi hw hw2
      obtain ⟨_, p1, p2⟩ := hP i (by omega)
      rw [fxI] at hw2
      generalize hp : P.getD i 0 = p at p1 p2 hw2
      unfold F_X1_fixedNets_17
      refine br2 (nI_ge (by omega) (by omega)) (f_partAt h6 hP (by omega) ?_)
      rw [hp, show nI p - 1 = nI (p - 1) from ni_sub (b := 1) (by omega), show nI (p - 1) / 2 = nI ((p - 1) / 2) from ni_div (b := 2) (by omega) (by decide) (by decide), show nI p - nI p / 2 * 2 = nI (p % 2) from ni_mod (b := 2) (by omega) (by decide) (by decide)]
      refine f_addCycles (by omega) (by omega) hw (fun ways hw => ?_)
      have fifty : ∀ q w ways, q ≤ 1 → WY w ways → fxI P r (i + 1) (fxJ P p i 0 (wyC q (p / 2) w)) = fxI P P.length 0 w0L → F_X1_fixedNets_50 (oI e) (nI dk.toNat) parts post (F_X1_fixedNets_17 (oI e) (nI dk.toNat) parts post (r + 1)) (nI P.length) (nI i) (nI p) (nI q) ways := by
        intro q w ways hq hw hw2
        unfold F_X1_fixedNets_50
        rw [show nI p / 2 = nI (p / 2) from ni_div (b := 2) (by omega) (by decide) (by decide)]
        refine f_addCycles (by omega) (by omega) hw (fun ways hw => ⟨i + 1, ?_⟩)
        have inner : ∀ s j w ways, j + s = i → WY w ways → fxI P r (i + 1) (fxJ P p s j w) = fxI P P.length 0 w0L → F_X1_fixedNets_59 (oI e) (nI dk.toNat) parts post (F_X1_fixedNets_17 (oI e) (nI dk.toNat) parts post (r + 1)) (s + 1) (nI P.length) (nI i) (nI p) (nI j) ways := by
          intro s
          induction s with
          | zero =>
            intro j w ways hj hw hw2
            unfold F_X1_fixedNets_59
            refine br1 (nI_le (by omega) (by omega)) ?_
            rw [nI_1]
            exact ih (i + 1) _ _ (by omega) hw hw2
          | succ s ihs =>
            intro j w ways hj hw hw2
            obtain ⟨_, q1, q2⟩ := hP j (by omega)
            rw [fxJ] at hw2
            have hcd := cdF_le p (P.getD j 0) (min p (P.getD j 0))
            unfold F_X1_fixedNets_59 F_X1_fixedNets_100
            refine br2 (nI_ge (by omega) (by omega)) (f_partAt h6 hP (by omega) (f_commonDivisor (by omega) (by omega) ?_))
            refine br2 (nI_nle (by omega) (by omega)) ⟨nI_ne0 (by omega) (by omega), f_partAt h6 hP (by omega) ?_⟩
            have hq : p / cdF p (P.getD j 0) (min p (P.getD j 0)) ≤ p := Nat.div_le_self _ _
            have hmul : p / cdF p (P.getD j 0) (min p (P.getD j 0)) * P.getD j 0 ≤ 6 * 6 := Nat.mul_le_mul (by omega) q2
            rw [ni_div (by omega) (by omega) (by omega), ni_mul, nI_1]
            exact f_addCycles (by omega) (by omega) hw (fun ways hw => ihs (j + 1) _ ways (by omega) hw hw2)
        exact inner i 0 _ ways (by omega) hw hw2
      by_cases c : p % 2 = 0
      · rw [if_pos c] at hw2
        exact br4 (by rw [c]; rfl) (fifty 1 _ ways (by omega) hw hw2)
      · rw [if_neg c] at hw2
        exact br3 (nI_ne0 (by omega) (by omega)) (fifty 0 _ ways (by omega) hw hw2)
  unfold F_X1_fixedNets F_J7_fill_d0a16
  refine ⟨17, ?_⟩
  have fill : ∀ r i (w : Nat → Int64), i + r = 16 → (∀ x, x < i → w x = 0) → F_J7_fill_d0a16_6 16 (fun t_ways_5 => (vp_in 0 16 ∧ ∃ n17 : Nat, F_X1_fixedNets_17 (oI e) (nI dk.toNat) parts post n17 (nI P.length) 0 (vp_updL t_ways_5 (0 : Int32).toNatClampNeg (1 : Int64)))) (r + 1) (0 : Int64) (nI i) (Int32.ofNat 16) w := by
    intro r
    induction r with
    | zero =>
      intro i w hi hw
      have : i = 16 := by omega
      subst this
      unfold F_J7_fill_d0a16_6
      refine br1 (by decide) ⟨vp_in_nI (n := 0) (by decide) (by decide), P.length + 1, main P.length 0 w0L _ (by omega) (fun x hx => ?_) rfl⟩
      by_cases c : x = 0
      · subst c
        exact updL_in
      · rw [show ((0 : Int32).toNatClampNeg) = 0 by decide, updL_out c, hw x hx]
        have : ∀ x, x < 16 → x ≠ 0 → w0L.getD x 0 = 0 := by decide
        rw [this x hx c]
        rfl
    | succ r ih =>
      intro i w hi hw
      unfold F_J7_fill_d0a16_6
      refine br2 (nI_ge (b := 16) (by omega) (by decide)) ⟨vp_in_nI (by omega) (by decide), ?_⟩
      rw [nI_clamp (by omega), nI_1]
      refine ih (i + 1) _ (by omega) (fun x hx => ?_)
      by_cases c : x = i
      · subst c; exact updL_in
      · rw [updL_out c]; exact hw x (by omega)
  exact fill 16 0 ways (by omega) (fun x hx => absurd hx (Nat.not_lt_zero _))
def sDn (f : Nat → Nat) : Nat → Nat → Nat
  | 0, s => s
  | m + 1, s => sDn f m (s + f (m + 1))
def spN (e : Option Nat) (dk : Bool) (fc : Nat) : Nat → List Nat → Nat → Nat → Nat
  | 0, _, _, _ => 0
  | d + 1, P, left, most => if left = 0 then fc / alS P P.length 0 0 1 * fxN P e dk else sDn (fun part => spN e dk fc d (P ++ [part]) (left - part) part) (min left most) 0
theorem PW_pre {P : List Nat} {x : Nat} {parts : Nat → Int32} (h : PW (P ++ [x]) parts) : PW P parts := fun i hi => by
  have := h i (by rw [List.length_append]; show i < P.length + 1; omega)
  rw [List.getD_eq_getElem?_getD, List.getElem?_append_left hi, ← List.getD_eq_getElem?_getD] at this
  exact this
theorem f_splitNext {e : Option Nat} (he : ∀ x, e = some x → x ≤ 15) {dk : Bool} {fc : Nat} (hfc : fc < 2 ^ 62) : ∀ d P left most parts ways (post : Int64 → (Nat → Int32) → (Nat → Int64) → Prop), left < d → P.length + left ≤ 6 → PW P parts → most ≤ 6 → 1 ≤ most → (∀ parts ways, PW P parts → post (lN (spN e dk fc d P left most)) parts ways) → F_X1_splitNext d (oI e) (nI dk.toNat) parts ways (nI P.length) (nI left) (nI most) (lN fc) post := by
  intro d
  induction d with
  | zero => intro P left most parts ways post h; omega
  | succ d ih =>
    intro P left most parts ways post hd hl hP hm hm1 K
    unfold F_X1_splitNext FB_X1_splitNext F_X1_splitNext_13
    rw [spN] at K
    by_cases c : left = 0
    · subst c
      rw [if_pos rfl] at K
      refine br1 (by decide) (f_alike (by omega) hP hfc (f_fixedNets (by omega) hP he (fun ways => ?_)))
      rw [ln_mul2]
      exact K parts ways hP
    · rw [if_neg c] at K
      refine br2 (nI_nle (by omega) (by omega)) (br1 (nI_lt (b := 6) (by omega) (by decide)) ⟨min left most + 1, ?_⟩)
      rw [nI_min (by omega) (by omega)]
      have loop : ∀ m s parts ways, m ≤ min left most → PW P parts → (∀ parts ways, PW P parts → post (lN (sDn (fun part => spN e dk fc d (P ++ [part]) (left - part) part) m s)) parts ways) → F_X1_splitNext_37 (F_X1_splitNext d) (oI e) (nI dk.toNat) post (m + 1) (nI P.length) (nI left) (lN fc) (lN s) (nI m) parts ways := by
        intro m
        induction m with
        | zero =>
          intro s parts ways hm hP K
          unfold F_X1_splitNext_37
          exact br1 (by decide) (K parts ways hP)
        | succ m ihm =>
          intro s parts ways hm hP K
          unfold F_X1_splitNext_37 F_X1_split F_X1_split_20
          refine br2 (nI_nle (by omega) (by omega)) (br2 (nI_pos (by omega)) (br2 (nI_ge (b := 6) (by omega) (by decide)) ⟨vp_in_nI (by omega) (by decide), ?_⟩))
          have hP2 : PW (P ++ [m + 1]) (upd parts P.length (nI (m + 1))) := by
            intro i hi
            rw [List.length_append] at hi
            have hi : i < P.length + 1 := hi
            by_cases g : i = P.length
            · subst g
              rw [upd_in, List.getD_eq_getElem?_getD, List.getElem?_append_right (Nat.le_refl _), Nat.sub_self]
              exact ⟨rfl, by show 1 ≤ m + 1; omega, by show m + 1 ≤ 6; omega⟩
            · rw [upd_out g, List.getD_eq_getElem?_getD, List.getElem?_append_left (by omega), ← List.getD_eq_getElem?_getD]
              exact hP i (by omega)
          rw [nI_clamp (by omega), nI_1, ni_sub (by omega), ni_dec, show P.length + 1 = (P ++ [m + 1]).length by simp]
          refine ih (P ++ [m + 1]) (left - (m + 1)) (m + 1) _ ways _ (by omega) (by rw [List.length_append]; show P.length + 1 + _ ≤ 6; omega) hP2 (by omega) (by omega) (fun parts ways hP3 => ?_)
          dsimp only
          rw [ln_add2]
          exact ihm _ parts ways (by omega) (PW_pre hP3) K
      exact loop (min left most) 0 parts ways (Nat.le_refl _) hP K
def fcN (n : Nat) : Nat := if n = 2 then 2 else if n = 3 then 6 else if n = 4 then 24 else if n = 5 then 120 else if n = 6 then 720 else 1
theorem od_fc : ∀ n, n ≤ 6 → odJ n = lN (fcN n) := by decide +kernel
def cyT (e : Option Nat) (dk : Bool) (n : Nat) : Nat := spN e dk (fcN n) 10 [] n n
def cyQ (e : Option Nat) (n c : Nat) : Bool := decide (e = none) || decide (e = some (popc (c &&& aeM n) 24))
def cyOk (e : Option Nat) (dk : Bool) (n : Nat) : Bool := decide (cyT e dk n < 2 ^ 62) && (cyT e dk n / fcN n == ((CT n dk).filter (cyQ e n)).length)
theorem cy_none : ∀ dk n, n ≤ 6 → (n == 0 || ((dk && n == 6) || cyOk none dk n)) = true := by decide +kernel
theorem cy_some : ∀ dk n, n ≤ 6 → (n == 0 || ((dk && n == 6) || (List.range 16).all (fun x => cyOk (some x) dk n))) = true := by decide +kernel
theorem cy_all {e : Option Nat} (he : ∀ x, e = some x → x ≤ 15) {dk : Bool} {n : Nat} (h1 : 1 ≤ n) (h2 : n ≤ (if dk then 5 else 6)) : cyT e dk n < 2 ^ 62 ∧ cyT e dk n / fcN n = ((CT n dk).filter (cyQ e n)).length := by
  have hn : n ≤ 6 := by cases dk <;> simp at h2 <;> omega
  have hz : (n == 0) = false := beq_eq_false_iff_ne.mpr (by omega)
  have hd : (dk && n == 6) = false := by
    cases dk with
    | false => rfl
    | true =>
      have : n ≤ 5 := h2
      exact beq_eq_false_iff_ne.mpr (by omega)
  have h : cyOk e dk n = true := by
    cases e with
    | none =>
      have g := cy_none dk n hn
      rw [hz, hd] at g
      exact g
    | some x =>
      have g := cy_some dk n hn
      rw [hz, hd] at g
      have g : (List.range 16).all (fun x => cyOk (some x) dk n) = true := g
      have := he x rfl
      exact List.all_eq_true.mp g x (List.mem_range.mpr (by omega))
  unfold cyOk at h
  rw [Bool.and_eq_true, decide_eq_true_iff, beq_iff_eq] at h
  exact h
theorem fc_pos (n : Nat) : 1 ≤ fcN n ∧ fcN n ≤ 720 := by
  unfold fcN
  repeat' split
  all_goals omega
theorem f_unlikeNets {e : Option Nat} (he : ∀ x, e = some x → x ≤ 15) {dk : Bool} {n : Nat} (h1 : 1 ≤ n) (h2 : n ≤ (if dk then 5 else 6)) {ed hd : Int32} {parts : Nat → Int32} {ways : Nat → Int64} {post : Int64 → Int32 → Int32 → (Nat → Int32) → (Nat → Int64) → Prop} (K : ∀ ed hd parts ways, post (lN ((CT n dk).filter (cyQ e n)).length) ed hd parts ways) : F_X1_unlikeNets ed hd parts ways (nI n) (oI e) (nI dk.toNat) post := by
  have hn : n ≤ 6 := by cases dk <;> simp at h2 <;> omega
  obtain ⟨t1, t2⟩ := cy_all he h1 h2
  obtain ⟨f1, f2⟩ := fc_pos n
  unfold F_X1_unlikeNets
  refine ⟨bb1 _, f_orders h1 hn ?_⟩
  rw [od_fc n hn]
  refine f_splitNext he (by omega) 10 [] n n parts ways _ (by omega) (by simp; omega) (fun i hi => absurd hi (Nat.not_lt_zero _)) hn h1 (fun parts ways _ => f_orders h1 hn ?_)
  rw [od_fc n hn]
  have hlt : ¬ lN (fcN n) < (1 : Int64) := by
    rw [Int64.lt_iff_toInt_lt, ln_toInt (by omega)]
    have : (1 : Int64).toInt = 1 := by decide
    omega
  rw [if_neg hlt]
  refine ⟨fun g => ?_, ?_⟩
  · have := (ln_inj (a := fcN n) (b := 0) (by omega) (by decide)).mp g
    omega
  · have e2 : lN (spN e dk (fcN n) 10 [] n n) / lN (fcN n) = lN ((CT n dk).filter (cyQ e n)).length := by
      show lN (cyT e dk n) / lN (fcN n) = _
      rw [ln_div2 (Nat.lt_trans t1 (by decide)) (by omega) (by omega), ← t2]
    rw [e2]
    exact K _ _ _ _
/-! the reference's way -/
theorem cy_65 {k : KD} (hk : KOk k) {n : Nat} (h1 : 1 ≤ n) (hsz : n ≤ (if kDk k then 5 else 6)) {w : Nat → Int32} (hw : WR k w) {e : Option Nat} (he : ∀ x, e = some x → x ≤ 15) {total : Nat} {th : Int32} {post : Int64 → Int32 → Int32 → Int32 → (Nat → Int32) → (Nat → Int32) → (Nat → Int32) → Prop} (K : ∀ dark nodes by' o seen, post (lN total) dark nodes th by' o seen) : ∀ (j x M s : Nat) (dark nodes : Int32) (by' o seen : Nat → Int32), x + j = 2 ^ ncod n (kDk k) → SeenR (2 ^ ncod n (kDk k)) seen M → (∀ c ∈ cnF n (kDk k) j x M, c ∈ CT n (kDk k)) → s + ((cnF n (kDk k) j x M).filter (cyQ e n)).length = total → F_X12_cycles_65 w post (j + 1) (nI n) (oI e) (lN s) (nI x) dark nodes th by' o seen := by
  have hn : n ≤ 6 := by cases e : kDk k <;> rw [e] at hsz <;> simp at hsz <;> omega
  have hc15 := ncod_le hsz
  have p15 : 2 ^ ncod n (kDk k) ≤ 2 ^ 15 := Nat.pow_le_pow_right (by decide) hc15
  intro j
  induction j with
  | zero =>
    intro x M s dark nodes by' o seen hx hS hin ht
    unfold F_X12_cycles_65
    have ht : s = total := by rw [← ht]; simp [cnF]
    rw [ht]
    exact f_isDarkKind hw (f_codesOf hn (br1 (nI_le (by omega) (by omega)) (K _ _ _ _ _)))
  | succ j ih =>
    intro x M s dark nodes by' o seen hx hS hin ht
    unfold F_X12_cycles_65 F_X12_cycles_124 F_X12_cycles_129 F_X12_cycles_131
    refine f_isDarkKind hw (f_codesOf hn (br2 (nI_ge (by omega) (by omega)) ⟨vp_in_nI (by omega) (by decide), ?_⟩))
    rw [nI_clamp (by omega), hS x (by omega), nI_1]
    rw [cnF] at ht hin
    refine ⟨fun g => ?_, fun g => ?_⟩
    · rw [bnz] at g
      rw [if_neg (by rw [g]; decide)] at ht hin
      have hcin := hin _ (List.mem_cons_self ..)
      have hclt := CT_lt h1 hsz hcin
      have f7 := (CT_facts h1 hsz hcin).2.2.2.2.2.2.1
      refine f_isDarkKind hw (f_spread hn (by omega) (f_isDarkKind hw (f_marksLike h1 hsz hclt hS (fun dark nodes by' o seen hG hs => ?_))))
      have hin2 : ∀ c ∈ cnF n (kDk k) j (x + 1) (mkF n (kDk k) (spr n (kDk k) x) M), c ∈ CT n (kDk k) := fun c hc => hin c (List.mem_cons_of_mem _ hc)
      have one : cyQ e n (spr n (kDk k) x) = true → F_X12_cycles_65 w post (j + 1) (nI n) (oI e) (lN s + 1) (nI x + 1) dark nodes th by' o seen := fun hq => by
        rw [nI_1]
        rw [List.filter_cons_of_pos hq, List.length_cons] at ht
        rw [show lN s + 1 = lN (s + 1) from ln_add2 s 1]
        exact ih (x + 1) _ (s + 1) dark nodes by' o seen (by omega) hs hin2 (by omega)
      have no : cyQ e n (spr n (kDk k) x) = false → F_X12_cycles_65 w post (j + 1) (nI n) (oI e) (lN s + 0) (nI x + 1) dark nodes th by' o seen := fun hq => by
        rw [nI_1]
        rw [List.filter_cons_of_neg (by rw [hq]; decide)] at ht
        rw [show lN s + 0 = lN s from Int64.add_zero _]
        exact ih (x + 1) _ s dark nodes by' o seen (by omega) hs hin2 ht
      cases e with
      | none =>
        exact br1 rfl (one rfl)
      | some y =>
        have hy := he y rfl
        have hnn := hG.2.1
        subst hnn
        refine br2 (fun g => nm1 (m := y) (by omega) g) (f_edgesNow (RG_RN hn hG (fun v _ => byM_lt _ _ v)) ?_)
        rw [← f7]
        have hq : cyQ (some y) n (spr n (kDk k) x) = decide (some y = some (popc (spr n (kDk k) x &&& aeM n) 24)) := rfl
        have hpl := popc_le (spr n (kDk k) x &&& aeM n) 24
        by_cases c : popc (spr n (kDk k) x &&& aeM n) 24 = y
        · exact br4 (by rw [c]; rfl) (one (by rw [hq, c]; exact decide_eq_true rfl))
        · exact br3 (fun g => c (ni_inj (by omega) (by omega) g)) (no (by rw [hq]; exact decide_eq_false (fun h => c (Option.some.inj h).symm)))
    · have g := bnn g
      rw [if_pos g] at ht hin
      exact ih (x + 1) M s dark nodes by' o seen (by omega) hS hin ht
theorem rng_e (p : Int32) : (p < -1 ∨ 15 < p) ∨ ∃ e : Option Nat, (∀ x, e = some x → x ≤ 15) ∧ p = oI e := by
  by_cases h1 : p < -1
  · exact Or.inl (Or.inl h1)
  · by_cases h2 : p = -1
    · exact Or.inr ⟨none, fun x hx => absurd hx (by simp), h2⟩
    · have g : ¬ p < 0 := by
        intro h
        apply h2
        apply Int32.toInt_inj.mp
        rw [Int32.lt_iff_toInt_lt] at h h1
        have e1 : (-1 : Int32).toInt = -1 := by decide
        have e0 : (0 : Int32).toInt = 0 := by decide
        omega
      obtain ⟨y, hy, rfl⟩ := nI_of g
      by_cases h3 : y ≤ 15
      · exact Or.inr ⟨some y, fun x hx => by rw [← Option.some.inj hx]; exact h3, rfl⟩
      · exact Or.inl (Or.inr (nI_lt (a := 15) (by omega) hy))
theorem oI_in {e : Option Nat} (he : ∀ x, e = some x → x ≤ 15) : ¬ oI e < -1 ∧ oI e ≤ 15 ∧ ¬ 15 < oI e := by
  cases e with
  | none => decide
  | some y =>
    have hy := he y rfl
    refine ⟨fun g => ?_, nI_le (b := 15) hy (by decide), nI_nlt (a := 15) hy (by decide)⟩
    have g : nI y < -1 := g
    rw [Int32.lt_iff_toInt_lt, nI_toInt (by omega)] at g
    have e1 : (-1 : Int32).toInt = -1 := by decide
    omega
theorem f_inE {e : Option Nat} (he : ∀ x, e = some x → x ≤ 15) {post : Int32 → Prop} (K : post 1) : F_X12_in (oI e) (-1) 15 post := by
  obtain ⟨h1, _, h3⟩ := oI_in he
  unfold F_X12_in F_X12_in_15
  exact br2 h1 (br2 h3 ⟨by decide, K⟩)
theorem lc22 (xs : Nat → Int32) (L : Nat) (hL3 : L ≤ 3072) : LC22 xs L IInv := by
  unfold LC22
  intro x4 m_begin m_dark m_end m_faultAt m_form m_hasImage m_heldDark m_lasts m_nodes m_pairs m_point m_symmetries m_taped m_thrown m_toldEdges m_toldForm m_toldNodes m_toldSymmetries m_writtenMany m_by m_decks m_draft m_firstOrder m_five m_forms m_held m_image m_many m_order m_seen m_tape m_toldOrder m_world m_written o x_hasImage x_cycleSums_edges x_cycleSums_hasDark x_cycleSums_parts x_cycleSums_ways x_decks x_draft_bannedCircles x_draft_endLines x_draft_endsJoined x_draft_fewestEdges x_draft_hasDark x_draft_least x_draft_most x_draft_mostEdges x_draft_patterns x_draft_ruleLines x_draft_size x_draft_unlike x_draft_words x_draft_patternCodes x_draft_patternNodes x_forms_allBits x_forms_firstOrder x_forms_isBeaten x_forms_isStudy x_forms_isTest x_forms_least x_forms_nodes x_forms_order x_forms_seen x_forms_stillEdges x_forms_symmetries x_forms_sketch_colours x_forms_sketch_darks x_forms_sketch_nodes x_forms_sketch_fans x_forms_sketch_near x_keptLevels_total x_keptLevels_codes x_keptLevels_firsts x_keptRules_bannedCircles x_keptRules_endLines x_keptRules_endsJoined x_keptRules_fewestEdges x_keptRules_hasDark x_keptRules_least x_keptRules_most x_keptRules_mostEdges x_keptRules_patterns x_keptRules_ruleLines x_keptRules_size x_keptRules_unlike x_keptRules_words x_keptRules_patternCodes x_keptRules_patternNodes x_keptWalkers_allParts x_keptWalkers_depths x_keptWalkers_lists x_keptWalkers_ownParts x_levels_total x_levels_codes x_levels_firsts x_match_best x_match_code x_match_one_colours x_match_one_darks x_match_one_nodes x_match_one_fans x_match_one_near x_match_two_colours x_match_two_darks x_match_two_nodes x_match_two_fans x_match_two_near x_page_length x_page_bytes x_rules_bannedCircles x_rules_endLines x_rules_endsJoined x_rules_fewestEdges x_rules_hasDark x_rules_least x_rules_most x_rules_mostEdges x_rules_patterns x_rules_ruleLines x_rules_size x_rules_unlike x_rules_words x_rules_patternCodes x_rules_patternNodes x_sketch_colours x_sketch_darks x_sketch_nodes x_sketch_fans x_sketch_near x_tape_begun x_tape_length x_tape_position x_tape_wrong x_tape_bytes x_texts_code x_texts_nodes x_toldForms_allBits x_toldForms_firstOrder x_toldForms_isBeaten x_toldForms_isStudy x_toldForms_isTest x_toldForms_least x_toldForms_nodes x_toldForms_order x_toldForms_seen x_toldForms_stillEdges x_toldForms_symmetries x_toldForms_sketch_colours x_toldForms_sketch_darks x_toldForms_sketch_nodes x_toldForms_sketch_fans x_toldForms_sketch_near x_walkers_allParts x_walkers_depths x_walkers_lists x_walkers_ownParts hx0 hxL hI
  obtain ⟨k, hT, hK, hW, hG, hD, hO, hP⟩ := hI
  obtain ⟨hk, hw, ⟨q1, q2, q3, q4, q5, q6, q7, q8, q9, q10, q11, q12, hp⟩, hL, hU⟩ := hK
  subst q1 q2 q3 q4 q5 q6 q7 q8 q9 q10 q11 q12
  have hsz := size_le hk
  have a1 := arg_in hx0 hxL (by omega) (j := 1) (by omega)
  have a2 := arg_in hx0 hxL (by omega) (j := 2) (by omega)
  have a3 := arg_in hx0 hxL (by omega) (j := 3) (by omega)
  have a4 := arg_in hx0 hxL (by omega) (j := 4) (by omega)
  have a5 := arg_in hx0 hxL (by omega) (j := 5) (by omega)
  have o0 := vp_in_nI (n := 0) (N := 1) (by decide) (by decide)
  
  unfold F_law_c22 F_L_cycles F_law_c22_1820
  refine ⟨a1, a2, ?_⟩
  generalize xs (x4 + 1).toNatClampNeg = p1
  generalize xs (x4 + 2).toNatClampNeg = p2
  unfold F_X11_cycles F_X11_cycles_22 F_X11_cycles_25 F_X11_cycles_47 F_X12_cycles F_X12_cycles_21 F_X12_cycles_37 F_X12_cycles_42 F_X12_thrown
  cases e : kDk k with
  | true =>
    rcases rng p1 (a := 1) (b := 5) (by decide) (by decide) with h | ⟨n, h1, h2, rfl⟩
    · refine ⟨fun _ => ⟨rfl, a1, a2, f_isDarkKind hw ?_⟩, fun g => br2 (by decide) (br2 (fun g2 => ?_) ⟨rfl, a1, a2, f_isDarkKind hw ?_⟩)⟩
      · rw [e]
        exact br2 (by decide) (f_in_n h (br1 rfl (f_throws1 (br2 (by decide) (law_fin rfl (fun e => absurd e (by decide)) ⟨rfl, k, hT, ⟨hk, hw, ⟨rfl, rfl, rfl, rfl, (by rw [e]), rfl, rfl, rfl, rfl, rfl, rfl, rfl, hp⟩, hL, hU⟩, hW, hG, hD, hO, hP⟩)))))
      · rcases h with h | h
        · exact g h
        · have g2 : p1 ≤ nI 5 := g2
          rw [Int32.le_iff_toInt_le] at g2
          rw [Int32.lt_iff_toInt_lt] at h
          omega
      · rw [e]
        exact br2 (by decide) (f_in_n h (br1 rfl (f_throws1 (br2 (by decide) (law_fin rfl (fun e => absurd e (by decide)) ⟨rfl, k, hT, ⟨hk, hw, ⟨rfl, rfl, rfl, rfl, (by rw [e]), rfl, rfl, rfl, rfl, rfl, rfl, rfl, hp⟩, hL, hU⟩, hW, hG, hD, hO, hP⟩)))))
    · refine br2 (nI_nlt (b := 1) h1 (by omega)) ?_
      rcases rng_e p2 with h | ⟨ee, hee, rfl⟩
      · have g1 : ¬ p2 < -1 → ¬ p2 ≤ 15 := fun g0 g => by
          rcases h with h | h
          · exact g0 h
          · rw [Int32.le_iff_toInt_le] at g
            rw [Int32.lt_iff_toInt_lt] at h
            omega
        refine br2 (by decide) (br1 (nI_le (b := 5) h2 (by decide)) ⟨fun _ => ⟨rfl, a1, a2, f_isDarkKind hw ?_⟩, fun g => br2 (g1 g) ⟨rfl, a1, a2, f_isDarkKind hw ?_⟩⟩)
        · rw [e]
          exact br2 (by decide) (f_in_y (a := 1) (b := 5) h1 h2 (by decide) (br2 (by decide) (f_in_n h (br4 rfl (f_throws1 (br2 (by decide) (law_fin rfl (fun e => absurd e (by decide)) ⟨rfl, k, hT, ⟨hk, hw, ⟨rfl, rfl, rfl, rfl, (by rw [e]), rfl, rfl, rfl, rfl, rfl, rfl, rfl, hp⟩, hL, hU⟩, hW, hG, hD, hO, hP⟩)))))))
        · rw [e]
          exact br2 (by decide) (f_in_y (a := 1) (b := 5) h1 h2 (by decide) (br2 (by decide) (f_in_n h (br4 rfl (f_throws1 (br2 (by decide) (law_fin rfl (fun e => absurd e (by decide)) ⟨rfl, k, hT, ⟨hk, hw, ⟨rfl, rfl, rfl, rfl, (by rw [e]), rfl, rfl, rfl, rfl, rfl, rfl, rfl, hp⟩, hL, hU⟩, hW, hG, hD, hO, hP⟩)))))))
      · obtain ⟨q1, q2, _⟩ := oI_in hee
        refine br2 (by decide) (br1 (nI_le (b := 5) h2 (by decide)) (br2 q1 (br1 q2 ?_)))
        have h2' : n ≤ (if kDk k then 5 else 6) := by rw [e]; exact h2
        have hCT := cn_CT n (kDk k) h1 h2'
        rw [← e]
        refine f_unlikeNets hee h1 h2' (fun ed hd parts ways => ⟨o0, a1, a2, f_isDarkKind hw ?_⟩)
        rw [e]
        refine br2 (by decide) (f_in_y (a := 1) (b := 5) h1 h2 (by decide) (br2 (by decide) (f_inE hee (br3 (by decide) (f_throws0 (br1 rfl (f_isDarkKind hw (f_beginsClasses h2' (fun s hs => ⟨2 ^ ncod n (kDk k) + 1, ?_⟩)))))))))
        refine cy_65 hk h1 h2' hw hee (fun dark nodes by' o' seen => ?_) (2 ^ ncod n (kDk k)) 0 0 0 _ _ _ _ _ (by omega) (fun i hi => by rw [hs i hi]; simp; rfl) (by rw [hCT]; exact fun c hc => hc) (by rw [hCT, Nat.zero_add])
        rw [← e]
        exact law_fin rfl (fun _ => updL_in) ⟨rfl, k, hT, ⟨hk, hw, ⟨rfl, rfl, rfl, rfl, rfl, rfl, rfl, rfl, rfl, rfl, rfl, rfl, hp⟩, hL, hU⟩, hW, hG, hD, hO, hP⟩
  | false =>
    rcases rng p1 (a := 1) (b := 6) (by decide) (by decide) with h | ⟨n, h1, h2, rfl⟩
    · refine ⟨fun _ => ⟨rfl, a1, a2, f_isDarkKind hw ?_⟩, fun g => br1 rfl (br2 (fun g2 => ?_) ⟨rfl, a1, a2, f_isDarkKind hw ?_⟩)⟩
      · rw [e]
        exact br1 rfl (f_in_n h (br1 rfl (f_throws1 (br2 (by decide) (law_fin rfl (fun e => absurd e (by decide)) ⟨rfl, k, hT, ⟨hk, hw, ⟨rfl, rfl, rfl, rfl, (by rw [e]), rfl, rfl, rfl, rfl, rfl, rfl, rfl, hp⟩, hL, hU⟩, hW, hG, hD, hO, hP⟩)))))
      · rcases h with h | h
        · exact g h
        · have g2 : p1 ≤ nI 6 := g2
          rw [Int32.le_iff_toInt_le] at g2
          rw [Int32.lt_iff_toInt_lt] at h
          omega
      · rw [e]
        exact br1 rfl (f_in_n h (br1 rfl (f_throws1 (br2 (by decide) (law_fin rfl (fun e => absurd e (by decide)) ⟨rfl, k, hT, ⟨hk, hw, ⟨rfl, rfl, rfl, rfl, (by rw [e]), rfl, rfl, rfl, rfl, rfl, rfl, rfl, hp⟩, hL, hU⟩, hW, hG, hD, hO, hP⟩)))))
    · refine br2 (nI_nlt (b := 1) h1 (by omega)) ?_
      rcases rng_e p2 with h | ⟨ee, hee, rfl⟩
      · have g1 : ¬ p2 < -1 → ¬ p2 ≤ 15 := fun g0 g => by
          rcases h with h | h
          · exact g0 h
          · rw [Int32.le_iff_toInt_le] at g
            rw [Int32.lt_iff_toInt_lt] at h
            omega
        refine br1 rfl (br1 (nI_le (b := 6) h2 (by decide)) ⟨fun _ => ⟨rfl, a1, a2, f_isDarkKind hw ?_⟩, fun g => br2 (g1 g) ⟨rfl, a1, a2, f_isDarkKind hw ?_⟩⟩)
        · rw [e]
          exact br1 rfl (f_in_y (a := 1) (b := 6) h1 h2 (by decide) (br2 (by decide) (f_in_n h (br4 rfl (f_throws1 (br2 (by decide) (law_fin rfl (fun e => absurd e (by decide)) ⟨rfl, k, hT, ⟨hk, hw, ⟨rfl, rfl, rfl, rfl, (by rw [e]), rfl, rfl, rfl, rfl, rfl, rfl, rfl, hp⟩, hL, hU⟩, hW, hG, hD, hO, hP⟩)))))))
        · rw [e]
          exact br1 rfl (f_in_y (a := 1) (b := 6) h1 h2 (by decide) (br2 (by decide) (f_in_n h (br4 rfl (f_throws1 (br2 (by decide) (law_fin rfl (fun e => absurd e (by decide)) ⟨rfl, k, hT, ⟨hk, hw, ⟨rfl, rfl, rfl, rfl, (by rw [e]), rfl, rfl, rfl, rfl, rfl, rfl, rfl, hp⟩, hL, hU⟩, hW, hG, hD, hO, hP⟩)))))))
      · obtain ⟨q1, q2, _⟩ := oI_in hee
        refine br1 rfl (br1 (nI_le (b := 6) h2 (by decide)) (br2 q1 (br1 q2 ?_)))
        have h2' : n ≤ (if kDk k then 5 else 6) := by rw [e]; exact h2
        have hCT := cn_CT n (kDk k) h1 h2'
        rw [← e]
        refine f_unlikeNets hee h1 h2' (fun ed hd parts ways => ⟨o0, a1, a2, f_isDarkKind hw ?_⟩)
        rw [e]
        refine br1 rfl (f_in_y (a := 1) (b := 6) h1 h2 (by decide) (br2 (by decide) (f_inE hee (br3 (by decide) (f_throws0 (br1 rfl (f_isDarkKind hw (f_beginsClasses h2' (fun s hs => ⟨2 ^ ncod n (kDk k) + 1, ?_⟩)))))))))
        refine cy_65 hk h1 h2' hw hee (fun dark nodes by' o' seen => ?_) (2 ^ ncod n (kDk k)) 0 0 0 _ _ _ _ _ (by omega) (fun i hi => by rw [hs i hi]; simp; rfl) (by rw [hCT]; exact fun c hc => hc) (by rw [hCT, Nat.zero_add])
        rw [← e]
        exact law_fin rfl (fun _ => updL_in) ⟨rfl, k, hT, ⟨hk, hw, ⟨rfl, rfl, rfl, rfl, rfl, rfl, rfl, rfl, rfl, rfl, rfl, rfl, hp⟩, hL, hU⟩, hW, hG, hD, hO, hP⟩
