/-! decks, sorted on both sides -/
def shO1 : Option Nat → Nat
  | none => 0
  | some i => i + 1
theorem sh_add (o : Option Nat) : oI o + 1 = nI (shO1 o) := by
  cases o with
  | none => decide
  | some i => exact nI_1 i
theorem sh_sub (o : Option Nat) : oI o = nI (shO1 o) - 1 := by
  cases o with
  | none => decide
  | some i => exact (nI_pred i).symm
def dkO (k : KD) (n c v : Nat) : Option Nat := ixF (lvl k (n - 1)) (frm (n - 1) (rmb (dkM n c) v) (fun u => rmb (byM n c (skp v u)) v))
theorem dkO_lt (k : KD) {n : Nat} (hn : n ≤ 6) (c v : Nat) : shO1 (dkO k n c v) < 1000 := by
  have hl := lvl_len k (n - 1) (by omega)
  unfold dkO ixF
  split
  · show _ + 1 < 1000; omega
  · decide
def insD (a : Nat) : List Nat → List Nat
  | [] => [a]
  | x :: R => if a < x then x :: insD a R else a :: x :: R
theorem insD_len (a : Nat) : ∀ R, (insD a R).length = R.length + 1
  | [] => rfl
  | x :: R => by
    rw [insD]
    split
    · rw [List.length_cons, insD_len a R, List.length_cons]
    · rfl
theorem insD_lt {a : Nat} (ha : a < 1000) : ∀ {R : List Nat}, (∀ x ∈ R, x < 1000) → ∀ x ∈ insD a R, x < 1000
  | [], _, x, hx => by
    rw [insD, List.mem_singleton] at hx
    omega
  | y :: R, h, x, hx => by
    rw [insD] at hx
    split at hx
    · rcases List.mem_cons.mp hx with rfl | hx
      · exact h x (by simp)
      · exact insD_lt ha (fun z hz => h z (by simp [hz])) x hx
    · rcases List.mem_cons.mp hx with rfl | hx
      · exact ha
      · exact h x hx
theorem insD_mem {a : Nat} : ∀ {R : List Nat} {x : Nat}, x ∈ insD a R → x = a ∨ x ∈ R
  | [], x, hx => by
    rw [insD, List.mem_singleton] at hx
    exact Or.inl hx
  | y :: R, x, hx => by
    rw [insD] at hx
    split at hx
    · rcases List.mem_cons.mp hx with rfl | hx
      · exact Or.inr (by simp)
      · rcases insD_mem hx with h | h
        · exact Or.inl h
        · exact Or.inr (by simp [h])
    · rcases List.mem_cons.mp hx with rfl | hx
      · exact Or.inl rfl
      · exact Or.inr hx
theorem insD_down {a : Nat} : ∀ {R : List Nat}, R.Pairwise (· ≥ ·) → (insD a R).Pairwise (· ≥ ·)
  | [], _ => by rw [insD]; simp
  | y :: R, h => by
    obtain ⟨h1, h2⟩ := List.pairwise_cons.mp h
    rw [insD]
    split
    · rename_i g
      refine List.pairwise_cons.mpr ⟨fun x hx => ?_, insD_down h2⟩
      rcases insD_mem hx with rfl | hx
      · show x ≤ y; omega
      · exact h1 x hx
    · rename_i g
      refine List.pairwise_cons.mpr ⟨fun x hx => ?_, h⟩
      rcases List.mem_cons.mp hx with rfl | hx
      · show x ≤ a; omega
      · have : x ≤ y := h1 x hx
        show x ≤ a; omega
def pkD : List Nat → Nat
  | [] => 0
  | x :: R => x + 1024 * pkD R
theorem pkD_lt : ∀ {R : List Nat}, (∀ x ∈ R, x < 1000) → pkD R < 2 ^ (10 * R.length)
  | [], _ => by decide
  | x :: R, h => by
    have h1 := h x (by simp)
    have h2 := pkD_lt (R := R) (fun y hy => h y (by simp [hy]))
    have e : 10 * (x :: R).length = 10 * R.length + 10 := by rw [List.length_cons]; omega
    rw [pkD, e, Nat.pow_add]
    omega
theorem pkD_inj : ∀ {R S : List Nat}, (∀ x ∈ R, x < 1000) → (∀ x ∈ S, x < 1000) → R.length = S.length → pkD R = pkD S → R = S
  | [], [], _, _, _, _ => rfl
  | [], _ :: _, _, _, h, _ => by simp at h
  | _ :: _, [], _, _, h, _ => by simp at h
  | x :: R, y :: S, h1, h2, hl, h => by
    have a1 := h1 x (by simp)
    have a2 := h2 y (by simp)
    rw [pkD, pkD] at h
    have hl : R.length = S.length := by simpa using hl
    have e1 : x = y := by omega
    have e2 : R = S := pkD_inj (fun z hz => h1 z (by simp [hz])) (fun z hz => h2 z (by simp [hz])) hl (by omega)
    rw [e1, e2]
theorem pkD_drop : ∀ (i : Nat) (R : List Nat), (∀ x ∈ R, x < 1000) → pkD R / 2 ^ (10 * i) = pkD (R.drop i)
  | 0, R, _ => by simp
  | i + 1, [], _ => by simp [pkD]
  | i + 1, x :: R, h => by
    have h1 := h x (by simp)
    have ih := pkD_drop i R (fun y hy => h y (by simp [hy]))
    rw [show 10 * (i + 1) = 10 + 10 * i by omega, Nat.pow_add, ← Nat.div_div_eq_div_mul, pkD, show (x + 1024 * pkD R) / 2 ^ 10 = pkD R by omega, ih]
    rfl
theorem pkD_head {R : List Nat} (h : ∀ x ∈ R, x < 1000) : pkD R % 1024 = R.headD 0 := by
  cases R with
  | nil => rfl
  | cons x R =>
    have := h x (by simp)
    rw [pkD]
    show _ = x
    omega
def wsM : Nat → List Nat → Nat → Nat
  | 0, _, _ => 0
  | j + 1, R, c => max (R.headD 0) c + 1024 * wsM j R.tail (min (R.headD 0) c)
theorem wsM_nil : ∀ j, wsM j [] 0 = 0
  | 0 => rfl
  | j + 1 => by
    rw [wsM]
    show max 0 0 + 1024 * wsM j [] (min 0 0) = 0
    rw [Nat.max_self, Nat.min_self, wsM_nil j]
theorem insD_top {x : Nat} {R : List Nat} (h : (x :: R).Pairwise (· ≥ ·)) : insD x R = x :: R := by
  cases R with
  | nil => rfl
  | cons y R =>
    have : y ≤ x := (List.pairwise_cons.mp h).1 y (by simp)
    rw [insD, if_neg (by omega)]
theorem wsM_ins : ∀ (R : List Nat) (j c : Nat), R.length < j → R.Pairwise (· ≥ ·) → wsM j R c = pkD (insD c R)
  | [], 0, c, h, _ => by simp at h
  | [], j + 1, c, _, _ => by
    rw [wsM]
    show max 0 c + 1024 * wsM j [] (min 0 c) = pkD [c]
    rw [Nat.zero_min, wsM_nil, Nat.zero_max]
    rfl
  | x :: R, 0, c, h, _ => by simp at h
  | x :: R, j + 1, c, h, hs => by
    have hs2 := (List.pairwise_cons.mp hs).2
    have h2 : R.length < j := by rw [List.length_cons] at h; omega
    rw [wsM, insD]
    show max x c + 1024 * wsM j R (min x c) = _
    by_cases g : c < x
    · rw [if_pos g, Nat.max_eq_left (by omega), Nat.min_eq_right (by omega), wsM_ins R j c h2 hs2]
      rfl
    · rw [if_neg g, Nat.max_eq_right (by omega), Nat.min_eq_left (by omega), wsM_ins R j x h2 hs2, insD_top hs]
      rfl
theorem ln_ltI {a b : Nat} (ha : a < 2 ^ 63) (hb : b < 2 ^ 63) : lN a < lN b ↔ a < b := by
  rw [Int64.lt_iff_toInt_lt, ln_toInt ha, ln_toInt hb]
  omega
theorem f_withSorted {R : List Nat} (hl : R.length ≤ 5) (hs : R.Pairwise (· ≥ ·)) (hR : ∀ x ∈ R, x < 1000) {c : Nat} (hc : c < 1000) {post : Int64 → Prop} (K : post (lN (pkD (insD c R)))) : F_X11_withSorted (lN (pkD R)) (lN c) post := by
  unfold F_X11_withSorted
  refine ⟨7, ?_⟩
  have hpk : pkD R < 2 ^ 60 := Nat.lt_of_lt_of_le (pkD_lt hR) (Nat.pow_le_pow_right (by decide) (by omega))
  have main : ∀ j i T c, i + j = 6 → T < 2 ^ (10 * i) → c < 1000 → post (lN (T + 2 ^ (10 * i) * wsM j (R.drop i) c)) → F_X11_withSorted_9 post (j + 1) (lN (pkD R)) (lN T) (lN c) (nI (10 * i)) := by
    intro j
    induction j with
    | zero =>
      intro i T c hi hT hc K
      have : i = 6 := by omega
      subst this
      unfold F_X11_withSorted_9
      refine br1 (by decide) ?_
      rw [wsM, Nat.mul_zero, Nat.add_zero] at K
      exact K
    | succ j ih =>
      intro i T c hi hT hc K
      unfold F_X11_withSorted_9
      have hd : ∀ x ∈ R.drop i, x < 1000 := fun x hx => hR x (List.mem_of_mem_drop hx)
      have hh : (lN (pkD R) >>> ((nI (10 * i)).toInt64 &&& 63)) &&& (1023 : Int64) = lN ((R.drop i).headD 0) := by
        rw [ln_shr (by omega) (by omega), pkD_drop i R hR]
        have : lN (pkD (R.drop i)) &&& lN (2 ^ 10 - 1) = lN (pkD (R.drop i) &&& (2 ^ 10 - 1)) := ln_and _ _
        rw [Nat.and_two_pow_sub_one_eq_mod] at this
        rw [← pkD_head hd]
        exact this
      have hh1 : (R.drop i).headD 0 < 1000 := by
        cases e : R.drop i with
        | nil => decide
        | cons x L => exact hd x (by rw [e]; simp)
      have htl : (R.drop i).tail = R.drop (i + 1) := by rw [List.tail_drop]
      rw [wsM, htl] at K
      generalize (R.drop i).headD 0 = h at hh hh1 K
      refine br2 (nI_ge (b := 60) (by omega) (by decide)) (fun x e1 y e2 => ?_)
      rw [hh] at e1 e2
      have p60 : 2 ^ (10 * i) ≤ 2 ^ 50 := Nat.pow_le_pow_right (by decide) (by omega)
      have e1' : x = lN (T + max h c * 2 ^ (10 * i)) := by
        rw [e1]
        have : (if lN c < lN h then lN h else lN c) = lN (max h c) := by
          by_cases g : c < h
          · rw [if_pos ((ln_ltI (by omega) (by omega)).mpr g), Nat.max_eq_left (by omega)]
          · rw [if_neg (fun q => g ((ln_ltI (by omega) (by omega)).mp q)), Nat.max_eq_right (by omega)]
        rw [this, ln_shl _ (by omega), ln_or]
        have hor := or_low (x := T) (y := 0) (a := 0) (b := max h c) (k := 10 * i) hT (Nat.pow_pos (by decide))
        rw [Nat.zero_mul, Nat.add_zero, Nat.zero_add, Nat.or_zero, Nat.zero_or] at hor
        rw [hor]
      have e2' : y = lN (min h c) := by
        rw [e2]
        by_cases g : c < h
        · rw [if_pos ((ln_ltI (by omega) (by omega)).mpr g), Nat.min_eq_right (by omega)]
        · rw [if_neg (fun q => g ((ln_ltI (by omega) (by omega)).mp q)), Nat.min_eq_left (by omega)]
      rw [e1', e2', show nI (10 * i) + 10 = nI (10 * (i + 1)) from nI_add (10 * i) 10]
      refine ih (i + 1) _ _ (by omega) ?_ (by omega) ?_
      · rw [show 10 * (i + 1) = 10 * i + 10 by omega, Nat.pow_add]
        have : max h c ≤ 1023 := by omega
        have : max h c * 2 ^ (10 * i) ≤ 1023 * 2 ^ (10 * i) := Nat.mul_le_mul_right _ this
        omega
      · have e : T + 2 ^ (10 * i) * (max h c + 1024 * wsM j (R.drop (i + 1)) (min h c)) = T + max h c * 2 ^ (10 * i) + 2 ^ (10 * (i + 1)) * wsM j (R.drop (i + 1)) (min h c) := by
          rw [show 10 * (i + 1) = 10 * i + 10 by omega, Nat.pow_add, show (2 : Nat) ^ 10 = 1024 from rfl, Nat.mul_add, ← Nat.mul_assoc, Nat.mul_comm (max h c)]
          omega
        rw [← e]
        exact K
  refine main 6 0 0 c (by omega) (by decide) hc ?_
  rw [Nat.mul_zero, Nat.pow_zero, Nat.zero_add, Nat.one_mul, List.drop_zero, wsM_ins R 6 c (by omega) hs]
  exact K
def dsL (k : KD) (n c : Nat) : Nat → List Nat
  | 0 => []
  | v + 1 => insD (shO1 (dkO k n c v)) (dsL k n c v)
theorem dsL_ok (k : KD) {n : Nat} (hn : n ≤ 6) (c : Nat) : ∀ v, (dsL k n c v).length = v ∧ (dsL k n c v).Pairwise (· ≥ ·) ∧ ∀ x ∈ dsL k n c v, x < 1000
  | 0 => ⟨rfl, List.Pairwise.nil, fun x hx => absurd hx (by simp [dsL])⟩
  | v + 1 => by
    obtain ⟨h1, h2, h3⟩ := dsL_ok k hn c v
    rw [dsL]
    exact ⟨by rw [insD_len, h1], insD_down h2, insD_lt (dkO_lt k hn c v) h3⟩
theorem f_numberWithout {k : KD} (hk : KOk k) {total : Int32} {codes firsts : Nat → Int32} (hL : LvX k total codes firsts) {n i v : Nat} (h1 : 2 ≤ n) (h2 : n ≤ kSz k) (hi : i < (lvl k n).length) (hv : v < n) {ab : Int32} {fo : Int64} {ib : Int32} {is' : Int32} {it : Int32} {le : Int32} {nn : Int32} {od : Int64} {se : Int64} {sl : Int32} {sy : Int32} {cl : Int64} {dk' : Int32} {sn : Int32} {fans : (Nat → Int64)} {near : (Nat → Int32)} (ho : ordOk od) {post : Int32 → Int32 → Int64 → Int32 → Int32 → Int32 → Int32 → Int32 → Int64 → Int64 → Int32 → Int32 → Int64 → Int32 → Int32 → (Nat → Int64) → (Nat → Int32) → Prop} (K : ∀ ab fo ib is' it le nn od se sl sy cl dk' sn fans near, ordOk od → post (oI (dkO k n ((lvl k n).getD i 0) v)) ab fo ib is' it le nn od se sl sy cl dk' sn fans near) : F_X11_numberWithout total codes firsts ab fo ib is' it le nn od se sl sy cl dk' sn fans near (nI n) (nI ((lvl k n).getD i 0)) (nI v) post := by
  have hsz := size_le hk
  have hc31 := lvl_lt31 hk (show 1 ≤ n by omega) (by omega) hi
  unfold F_X11_numberWithout
  obtain ⟨m1, m2⟩ := out_mask n (by omega) v hv
  obtain ⟨d1, d2⟩ := deck_frm (n := n) (c := (lvl k n).getD i 0) (v := v) (by omega) hv
  rw [m1, show nI n - 1 = nI (n - 1) from ni_sub (b := 1) (by omega)]
  refine f_part (by omega) (by omega) (by omega) (f_leastOf (by omega) d1 ho (fun ab fo ib is' it le nn od se sl sy cl dk' sn fans near hF => ?_))
  rw [d2]
  exact f_numberOf hk hL (by omega) (by omega) (frm31 (by omega)) (K _ _ _ _ _ _ _ _ _ _ _ _ _ _ _ _ hF.2.2.2.2.1)
theorem f_wholeDeck {k : KD} (hk : KOk k) {total : Int32} {codes firsts : Nat → Int32} (hL : LvX k total codes firsts) {n i : Nat} (h1 : 2 ≤ n) (h2 : n ≤ kSz k) (hi : i < (lvl k n).length) {ab : Int32} {fo : Int64} {ib : Int32} {is' : Int32} {it : Int32} {le : Int32} {nn : Int32} {od : Int64} {se : Int64} {sl : Int32} {sy : Int32} {cl : Int64} {dk' : Int32} {sn : Int32} {fans : (Nat → Int64)} {near : (Nat → Int32)} (ho : ordOk od) {post : Int64 → Int32 → Int64 → Int32 → Int32 → Int32 → Int32 → Int32 → Int64 → Int64 → Int32 → Int32 → Int64 → Int32 → Int32 → (Nat → Int64) → (Nat → Int32) → Prop} (K : ∀ ab fo ib is' it le nn od se sl sy cl dk' sn fans near, ordOk od → post (lN (pkD (dsL k n ((lvl k n).getD i 0) n))) ab fo ib is' it le nn od se sl sy cl dk' sn fans near) : F_X11_wholeDeck total codes firsts ab fo ib is' it le nn od se sl sy cl dk' sn fans near (nI n) (nI ((lvl k n).getD i 0)) post := by
  have hsz := size_le hk
  unfold F_X11_wholeDeck
  refine ⟨n + 1, ?_⟩
  have main : ∀ j v ab fo ib is' it le nn od se sl sy cl dk' sn fans near, ordOk od → v + j = n → F_X11_wholeDeck_5 total codes firsts post (j + 1) (nI n) (nI ((lvl k n).getD i 0)) (lN (pkD (dsL k n ((lvl k n).getD i 0) v))) (nI v) ab fo ib is' it le nn od se sl sy cl dk' sn fans near := by
    intro j
    induction j with
    | zero =>
      intro v ab fo ib is' it le nn od se sl sy cl dk' sn fans near ho hv
      have : v = n := by omega
      subst this
      unfold F_X11_wholeDeck_5
      exact br1 (nI_le (Nat.le_refl _) (by omega)) (K _ _ _ _ _ _ _ _ _ _ _ _ _ _ _ _ ho)
    | succ j ih =>
      intro v ab fo ib is' it le nn od se sl sy cl dk' sn fans near ho hv
      obtain ⟨g1, g2, g3⟩ := dsL_ok k (show n ≤ 6 by omega) ((lvl k n).getD i 0) v
      have hlt := dkO_lt k (show n ≤ 6 by omega) ((lvl k n).getD i 0) v
      unfold F_X11_wholeDeck_5
      refine br2 (nI_ge (by omega) (by omega)) (f_numberWithout hk hL h1 h2 hi (by omega) ho (fun ab fo ib is' it le nn od se sl sy cl dk' sn fans near hod => ?_))
      rw [sh_add, nI_l (by omega)]
      refine f_withSorted (by omega) g2 g3 hlt ?_
      rw [nI_1]
      exact ih (v + 1) _ _ _ _ _ _ _ _ _ _ _ _ _ _ _ _ hod (by omega)
  exact main n 0 _ _ _ _ _ _ _ _ _ _ _ _ _ _ _ _ ho (by omega)
/-! pairs of the same deck -/
def dkS (k : KD) (n a : Nat) : List Nat := dsL k n ((lvl k n).getD a 0) n
def icT (k : KD) (n a : Nat) : Nat → Nat
  | 0 => 0
  | b + 1 => icT k n a b + (if dkS k n a = dkS k n b then 1 else 0)
def ocT (k : KD) (n : Nat) : Nat → Nat
  | 0 => 0
  | a + 1 => ocT k n a + icT k n a a
theorem x_twins {k : KD} (hk : KOk k) {total sz : Int32} {codes firsts : Nat → Int32} (hL : LvX k total codes firsts) {n : Nat} (h1 : 2 ≤ n) (h2 : n ≤ kSz k) {post : Int32 → (Nat → Int64) → Int32 → Int64 → Int32 → Int32 → Int32 → Int32 → Int32 → Int64 → Int64 → Int32 → Int32 → Int64 → Int32 → Int32 → (Nat → Int64) → (Nat → Int32) → Prop} {postx : String → (Nat → Int64) → Int32 → Int64 → Int32 → Int32 → Int32 → Int32 → Int32 → Int64 → Int64 → Int32 → Int32 → Int64 → Int32 → Int32 → (Nat → Int64) → (Nat → Int32) → Prop} (K : ∀ dd ab fo ib is' it le nn od se sl sy cl dk' sn fans near, ordOk od → post (nI (ocT k n (lvl k n).length)) dd ab fo ib is' it le nn od se sl sy cl dk' sn fans near) : ∀ j a dd ab fo ib is' it le nn od se sl sy cl dk' sn fans near, ordOk od → a + j = (lvl k n).length → (∀ b, b < a → dd b = lN (pkD (dkS k n b))) → F_X11_twins_43 total codes firsts sz post postx (j + 1) (nI n) (nI (lvl k n).length) (nI (ocT k n a)) (nI a) dd ab fo ib is' it le nn od se sl sy cl dk' sn fans near := by
  have hsz := size_le hk
  have hln := lvl_len k n (by omega)
  intro j
  induction j with
  | zero =>
    intro a dd ab fo ib is' it le nn od se sl sy cl dk' sn fans near ho ha hdd
    have : a = (lvl k n).length := by omega
    subst this
    unfold F_X11_twins_43
    exact br1 (nI_le (Nat.le_refl _) (by omega)) (K _ _ _ _ _ _ _ _ _ _ _ _ _ _ _ _ _ ho)
  | succ j ih =>
    intro a dd ab fo ib is' it le nn od se sl sy cl dk' sn fans near ho ha hdd
    have haa : a < (lvl k n).length := by omega
    obtain ⟨c1, c2⟩ := lv_codes hL (show 1 ≤ n by omega) (by omega) haa
    have hpk : ∀ b, pkD (dkS k n b) < 2 ^ 63 := fun b => by
      obtain ⟨g1, g2, g3⟩ := dsL_ok k (show n ≤ 6 by omega) ((lvl k n).getD b 0) n
      exact Nat.lt_of_lt_of_le (pkD_lt g3) (Nat.pow_le_pow_right (by decide) (by show 10 * (dsL k n ((lvl k n).getD b 0) n).length ≤ 63; rw [g1]; omega))
    unfold F_X11_twins_43
    refine br2 (nI_ge haa (by omega)) (f_codeOfI hL.2.1 (by omega) (by omega) (by omega) c1 c2 (f_wholeDeck hk hL h1 h2 haa ho (fun ab fo ib is' it le nn od se sl sy cl dk' sn fans near hod => ⟨vp_in_nI (by omega) (by decide), a + 1, ?_⟩)))
    rw [nI_clamp (by omega)]
    have hdd2 : ∀ b, b < a + 1 → vp_updL dd a (lN (pkD (dsL k n ((lvl k n).getD a 0) n))) b = lN (pkD (dkS k n b)) := fun b hb => by
      by_cases e : b = a
      · subst e; exact updL_in
      · rw [updL_out e]; exact hdd b (by omega)
    have inner : ∀ r b, b + r = a → F_X11_twins_78 total codes firsts sz post postx (F_X11_twins_43 total codes firsts sz post postx (j + 1)) (r + 1) (nI n) (nI (lvl k n).length) (nI (ocT k n a + icT k n a b)) (nI a) (lN (pkD (dsL k n ((lvl k n).getD a 0) n))) (nI b) (vp_updL dd a (lN (pkD (dsL k n ((lvl k n).getD a 0) n)))) ab fo ib is' it le nn od se sl sy cl dk' sn fans near := by
      intro r
      induction r with
      | zero =>
        intro b hb
        have : b = a := by omega
        subst this
        unfold F_X11_twins_78
        refine br1 (nI_le (Nat.le_refl _) (by omega)) ?_
        rw [nI_1]
        exact ih (b + 1) _ _ _ _ _ _ _ _ _ _ _ _ _ _ _ _ _ hod (by omega) hdd2
      | succ r ihr =>
        intro b hb
        have ihr := ihr (b + 1) (by omega)
        rw [icT, ← Nat.add_assoc] at ihr
        unfold F_X11_twins_78 F_X11_twins_101
        refine br2 (nI_ge (by omega) (by omega)) ⟨vp_in_nI (by omega) (by decide), ?_⟩
        rw [nI_clamp (by omega), hdd2 b (by omega), nI_1, nI_1, lg_cmp_eq]
        by_cases e : dkS k n a = dkS k n b
        · rw [if_pos e] at ihr
          refine br4 ?_ ihr
          rw [← e]
          rfl
        · rw [if_neg e, Nat.add_zero] at ihr
          refine br3 (fun g => e ?_) ihr
          have g := (ln_inj (hpk b) (hpk a)).mp g
          obtain ⟨p1, p2, p3⟩ := dsL_ok k (show n ≤ 6 by omega) ((lvl k n).getD b 0) n
          obtain ⟨q1, q2, q3⟩ := dsL_ok k (show n ≤ 6 by omega) ((lvl k n).getD a 0) n
          exact (pkD_inj p3 q3 (p1.trans q1.symm) g).symm
    exact inner a 0 (by omega)
/-! the reference's decks -/
def rvI (x : Nat) : Int32 := nI x - 1
theorem rvI_inj {x y : Nat} (hx : x < 1000) (hy : y < 1000) (h : rvI x = rvI y) : x = y := by
  unfold rvI at h
  have h2 : nI x - 1 + 1 = nI y - 1 + 1 := by rw [h]
  rw [Int32.sub_add_cancel, Int32.sub_add_cancel] at h2
  exact ni_inj (by omega) (by omega) h2
theorem rvI_le {x y : Nat} (hx : x < 1000) (hy : y < 1000) : rvI x ≤ rvI y ↔ x ≤ y := by
  unfold rvI
  rw [Int32.le_iff_toInt_le, nI_pred_int (by omega), nI_pred_int (by omega)]
  omega
/-- where a deck lies: the greatest last -/
def RowA (dd : Nat → Int32) (b0 : Nat) (R : List Nat) : Prop := ∀ s, s < R.length → dd (b0 + (R.length - 1 - s)) = rvI (R.getD s 0)
theorem ld_24 {forms many : Nat → Int32} {K2 : Int32 → Int32 → Int32 → Int32 → Int32 → Int32 → Int32 → Int32 → (Nat → Int32) → (Nat → Int32) → (Nat → Int32) → (Nat → Int32) → Prop} {post : Int32 → Int32 → Int32 → Int32 → Int32 → (Nat → Int32) → (Nat → Int32) → (Nat → Int32) → (Nat → Int32) → Prop} {x1 x3 : Int32} {a z v : Nat} (ha : a < 544) (hz : z ≤ 5) (hv : v < 1000) {dk f l nn sy : Int32} {b o1 o2 : Nat → Int32} {d0 : Nat → Int32} {Rt : List Nat} (hRt : Rt.length = z + 1) (K : ∀ dd, (∀ x, x < 6 * a → dd x = d0 x) → RowA dd (6 * a) Rt → K2 x1 (nI a) (x3 + 1) dk f l nn sy b dd o1 o2) : ∀ (Y X : List Nat) (dd : Nat → Int32), X.length + Y.length = z → (∀ x ∈ Y, x < 1000) → (∀ x, x < 6 * a → dd x = d0 x) → RowA dd (6 * a) Y → (∀ s, s < X.length → dd (6 * a + (z - s)) = rvI (X.getD s 0)) → X ++ insD v Y = Rt → F_X12_laysDeck_24 forms many post K2 (Y.length + 1) x1 (nI a) x3 (rvI v) (nI (6 * a + Y.length)) dk f l nn sy b dd o1 o2 := by
  have stop : ∀ (Y X : List Nat) (dd : Nat → Int32), X.length + Y.length = z → (∀ x, x < 6 * a → dd x = d0 x) → RowA dd (6 * a) Y → (∀ s, s < X.length → dd (6 * a + (z - s)) = rvI (X.getD s 0)) → X ++ v :: Y = Rt → F_X12_laysDeck_69 forms many post K2 x1 (nI a) x3 (rvI v) (nI (6 * a + Y.length)) dk f l nn sy b dd o1 o2 := by
    intro Y X dd hl hd hY hX he
    unfold F_X12_laysDeck_69
    refine ⟨vp_in_nI (by omega) (by decide), ?_⟩
    rw [nI_clamp (by omega)]
    refine K _ (fun x hx => ?_) (fun s hs => ?_)
    · rw [upd_out (by omega)]; exact hd x hx
    · rw [hRt] at hs ⊢
      rw [← he, List.getD_eq_getElem?_getD]
      by_cases c1 : s < X.length
      · rw [upd_out (by omega), List.getElem?_append_left c1, ← List.getD_eq_getElem?_getD, ← hX s c1]
        congr 1 <;> omega
      · rw [List.getElem?_append_right (by omega)]
        by_cases c2 : s = X.length
        · subst c2
          rw [show 6 * a + (z + 1 - 1 - X.length) = 6 * a + Y.length by omega, upd_in, Nat.sub_self]
          rfl
        · rw [upd_out (by omega), show s - X.length = (s - X.length - 1) + 1 by omega, List.getElem?_cons_succ, ← List.getD_eq_getElem?_getD, ← hY _ (by omega)]
          congr 1 <;> omega
  intro Y
  induction Y with
  | nil =>
    intro X dd hl hlt hd hY hX he
    rw [insD] at he
    unfold F_X12_laysDeck_24
    refine br1 ?_ (stop [] X dd hl hd hY hX he)
    rw [show (6 : Int32) * nI a = nI (6 * a) from ni_mul 6 a]
    exact nI_le (Nat.le_refl _) (by show 6 * a + 0 < _; omega)
  | cons y Y ih =>
    intro X dd hl hlt hd hY hX he
    have hy := hlt y (by simp)
    have hl1 : X.length + (Y.length + 1) = z := hl
    have hl2 : (y :: Y).length = Y.length + 1 := rfl
    unfold F_X12_laysDeck_24
    rw [show (6 : Int32) * nI a = nI (6 * a) from ni_mul 6 a, hl2]
    refine br2 (nI_ge (by omega) (by omega)) ?_
    rw [show nI (6 * a + (Y.length + 1)) - 1 = nI (6 * a + Y.length) from nI_pred (6 * a + Y.length), show nI (6 * a + (Y.length + 1)) + (-1) = nI (6 * a + Y.length) from ni_dec (6 * a + Y.length)]
    refine ⟨vp_in_nI (by omega) (by decide), ?_⟩
    rw [nI_clamp (by omega), nI_clamp (by omega)]
    have h0 : dd (6 * a + Y.length) = rvI y := hY 0 (by rw [hl2]; omega)
    rw [h0]
    rw [insD] at he
    by_cases c : v < y
    · rw [if_pos c] at he
      refine br2 (fun g => ?_) ⟨vp_in_nI (by omega) (by decide), vp_in_nI (by omega) (by decide), ?_⟩
      · have := (rvI_le hy hv).mp g
        omega
      · refine ih (X ++ [y]) _ (by rw [List.length_append]; show X.length + 1 + _ = z; omega) (fun x hx => hlt x (by simp [hx])) (fun x hx => ?_) (fun s hs => ?_) (fun s hs => ?_) (by rw [List.append_assoc]; exact he)
        · rw [upd_out (by omega)]; exact hd x hx
        · rw [upd_out (by omega)]
          have := hY (s + 1) (by rw [hl2]; omega)
          rw [hl2, show Y.length + 1 - 1 - (s + 1) = Y.length - 1 - s by omega] at this
          exact this
        · rw [List.length_append] at hs
          have hs : s < X.length + 1 := hs
          rw [List.getD_eq_getElem?_getD]
          by_cases e : s = X.length
          · subst e
            rw [show 6 * a + (z - X.length) = 6 * a + (Y.length + 1) by omega, upd_in, List.getElem?_append_right (Nat.le_refl _), Nat.sub_self]
            rfl
          · rw [upd_out (by omega), List.getElem?_append_left (by omega), ← List.getD_eq_getElem?_getD]
            exact hX s (by omega)
    · rw [if_neg c] at he
      refine br1 ((rvI_le hy hv).mpr (by omega)) ?_
      exact stop (y :: Y) X dd hl hd hY hX he
theorem f_laysDeck {k : KD} (hk : KOk k) {forms many : Nat → Int32} (hU : LvUp k 7 forms many) {dk nn fm la sy : Int32} {by0 d0 fo od : Nat → Int32} {n a : Nat} (h1 : 2 ≤ n) (h2 : n ≤ kSz k) (ha : a < (lvl k n).length) {post : Int32 → Int32 → Int32 → Int32 → Int32 → (Nat → Int32) → (Nat → Int32) → (Nat → Int32) → (Nat → Int32) → Prop} (K : ∀ dd, (∀ x, x < 6 * a → dd x = d0 x) → RowA dd (6 * a) (dkS k n a) → ∀ d f l nn s b o1 o2, post d f l nn s b dd o1 o2) : F_X12_laysDeck forms many dk fm la nn sy by0 d0 fo od (nI n) (nI a) post := by
  have hsz := size_le hk
  have hln := lvl_len k n (by omega)
  unfold F_X12_laysDeck
  refine ⟨n + 1, ?_⟩
  have main : ∀ j v d f l nn s b dd o1 o2, v + j = n → (∀ x, x < 6 * a → dd x = d0 x) → RowA dd (6 * a) (dsL k n ((lvl k n).getD a 0) v) → F_X12_laysDeck_2 forms many post (j + 1) (nI n) (nI a) (nI v) d f l nn s b dd o1 o2 := by
    intro j
    induction j with
    | zero =>
      intro v d f l nn s b dd o1 o2 hv hd hR
      have : v = n := by omega
      subst this
      unfold F_X12_laysDeck_2
      exact br1 (nI_le (Nat.le_refl _) (by omega)) (K dd hd hR _ _ _ _ _ _ _ _)
    | succ j ih =>
      intro v d f l nn s b dd o1 o2 hv hd hR
      obtain ⟨g1, g2, g3⟩ := dsL_ok k (show n ≤ 6 by omega) ((lvl k n).getD a 0) v
      have hlt := dkO_lt k (show n ≤ 6 by omega) ((lvl k n).getD a 0) v
      unfold F_X12_laysDeck_2
      refine br2 (nI_ge (by omega) (by omega)) (f_without hk hU h1 h2 ha (by omega) (fun d f l nn s b o1 o2 => ⟨(dsL k n ((lvl k n).getD a 0) v).length + 1, ?_⟩))
      have e0 : oI (ixF (lvl k (n - 1)) (frm (n - 1) (rmb (dkM n ((lvl k n).getD a 0)) v) (fun u => rmb (byM n ((lvl k n).getD a 0) (skp v u)) v))) = rvI (shO1 (dkO k n ((lvl k n).getD a 0) v)) := sh_sub _
      rw [e0, show (6 : Int32) * nI a = nI (6 * a) from ni_mul 6 a, nI_add, show 6 * a + v = 6 * a + (dsL k n ((lvl k n).getD a 0) v).length by rw [g1]]
      refine ld_24 (z := v) (d0 := d0) (Rt := dsL k n ((lvl k n).getD a 0) (v + 1)) (by omega) (by omega) hlt (by rw [(dsL_ok k (show n ≤ 6 by omega) ((lvl k n).getD a 0) (v + 1)).1]) (fun dd hd hR => ?_) _ [] dd (by rw [g1]; simp) g3 hd hR (fun s hs => absurd hs (Nat.not_lt_zero _)) rfl
      rw [nI_1]
      exact ih (v + 1) _ _ _ _ _ _ _ _ _ (by omega) hd hR
  exact main n 0 _ _ _ _ _ _ d0 _ _ (by omega) (fun x _ => rfl) (fun s hs => absurd hs (Nat.not_lt_zero _))
theorem r_twins56 {k : KD} (hk : KOk k) {w forms many : Nat → Int32} (hU : LvUp k 7 forms many) {n : Nat} (h1 : 2 ≤ n) (h2 : n ≤ kSz k) {th : Int32} {d f l nn s : Int32} {b dd o1 o2 : Nat → Int32} (hdd : ∀ a, a < (lvl k n).length → RowA dd (6 * a) (dkS k n a)) {post : Int32 → Int32 → Int32 → Int32 → Int32 → Int32 → Int32 → (Nat → Int32) → (Nat → Int32) → (Nat → Int32) → (Nat → Int32) → Prop} (K : post (nI (ocT k n (lvl k n).length)) d f l nn s th b dd o1 o2) : ∀ j a, a + j = (lvl k n).length → F_X12_twins_56 forms many w post (j + 1) (nI n) (nI (ocT k n a)) (nI a) d f l nn s th b dd o1 o2 := by
  have hsz := size_le hk
  have hln := lvl_len k n (by omega)
  have hlen : ∀ a, (dkS k n a).length = n ∧ ∀ x ∈ dkS k n a, x < 1000 := fun a => by
    obtain ⟨g1, _, g3⟩ := dsL_ok k (show n ≤ 6 by omega) ((lvl k n).getD a 0) n
    exact ⟨g1, g3⟩
  have cell : ∀ a, a < (lvl k n).length → ∀ e, e < n → dd (6 * a + e) = rvI ((dkS k n a).getD (n - 1 - e) 0) := fun a ha e he => by
    have := hdd a ha (n - 1 - e) (by rw [(hlen a).1]; omega)
    rw [(hlen a).1, show n - 1 - (n - 1 - e) = e by omega] at this
    exact this
  have small : ∀ a e, e < n → (dkS k n a).getD (n - 1 - e) 0 < 1000 := fun a e he => (hlen a).2 _ (getD_mem (by rw [(hlen a).1]; omega))
  intro j
  induction j with
  | zero =>
    intro a ha
    have : a = (lvl k n).length := by omega
    subst this
    unfold F_X12_twins_56
    refine ⟨vp_in_nI (by omega) (by decide), ?_⟩
    rw [many_at hU (by omega) (by omega)]
    exact br1 (nI_le (Nat.le_refl _) (by omega)) K
  | succ j ih =>
    intro a ha
    have haa : a < (lvl k n).length := by omega
    have ih := ih (a + 1) (by omega)
    rw [ocT] at ih
    unfold F_X12_twins_56
    refine ⟨vp_in_nI (by omega) (by decide), ?_⟩
    rw [many_at hU (by omega) (by omega)]
    refine br2 (nI_ge haa (by omega)) ⟨a + 1, ?_⟩
    have mid : ∀ r c, c + r = a → F_X12_twins_69 forms many w post (F_X12_twins_56 forms many w post (j + 1)) (r + 1) (nI n) (nI (ocT k n a + icT k n a c)) (nI a) (nI c) d f l nn s th b dd o1 o2 := by
      intro r
      induction r with
      | zero =>
        intro c hc
        have : c = a := by omega
        subst this
        unfold F_X12_twins_69
        refine br1 (nI_le (Nat.le_refl _) (by omega)) ?_
        rw [nI_1]
        exact ih
      | succ r ihr =>
        intro c hc
        have ihr := ihr (c + 1) (by omega)
        rw [icT, ← Nat.add_assoc] at ihr
        unfold F_X12_twins_69
        refine br2 (nI_ge (by omega) (by omega)) ⟨n + 1, ?_⟩
        have yes : dkS k n a = dkS k n c → F_X12_twins_133 forms many w post (F_X12_twins_69 forms many w post (F_X12_twins_56 forms many w post (j + 1)) (r + 1)) (nI n) (nI (ocT k n a + icT k n a c)) (nI a) (nI c) 1 d f l nn s th b dd o1 o2 := fun e => by
          rw [if_pos e] at ihr
          unfold F_X12_twins_133 F_X12_twins_144
          refine br2 (by decide) ?_
          rw [nI_1, nI_1]
          exact ihr
        have no : dkS k n a ≠ dkS k n c → F_X12_twins_133 forms many w post (F_X12_twins_69 forms many w post (F_X12_twins_56 forms many w post (j + 1)) (r + 1)) (nI n) (nI (ocT k n a + icT k n a c)) (nI a) (nI c) 0 d f l nn s th b dd o1 o2 := fun e => by
          rw [if_neg e, Nat.add_zero] at ihr
          unfold F_X12_twins_133 F_X12_twins_144
          refine br1 rfl ?_
          rw [Int32.add_zero, nI_1]
          exact ihr
        have inner : ∀ q e, e + q = n → (∀ t, t < e → (dkS k n a).getD (n - 1 - t) 0 = (dkS k n c).getD (n - 1 - t) 0) → F_X12_twins_81 forms many w post (F_X12_twins_69 forms many w post (F_X12_twins_56 forms many w post (j + 1)) (r + 1)) (q + 1) (nI n) (nI (ocT k n a + icT k n a c)) (nI a) (nI c) 1 (nI e) d f l nn s th b dd o1 o2 := by
          intro q
          induction q with
          | zero =>
            intro e he hs
            unfold F_X12_twins_81
            refine br1 (nI_le (by omega) (by omega)) (yes ?_)
            refine List.ext_getElem? (fun i => ?_)
            by_cases hi : i < n
            · have := hs (n - 1 - i) (by omega)
              rw [show n - 1 - (n - 1 - i) = i by omega] at this
              rw [List.getD_eq_getElem?_getD, List.getD_eq_getElem?_getD, List.getElem?_eq_getElem (by rw [(hlen a).1]; exact hi), List.getElem?_eq_getElem (by rw [(hlen c).1]; exact hi)] at this
              rw [List.getElem?_eq_getElem (by rw [(hlen a).1]; exact hi), List.getElem?_eq_getElem (by rw [(hlen c).1]; exact hi)]
              exact congrArg some this
            · rw [List.getElem?_eq_none (by rw [(hlen a).1]; omega), List.getElem?_eq_none (by rw [(hlen c).1]; omega)]
          | succ q ihq =>
            intro e he hs
            unfold F_X12_twins_81 F_X12_twins_125
            rw [show (6 : Int32) * nI a = nI (6 * a) from ni_mul 6 a, show (6 : Int32) * nI c = nI (6 * c) from ni_mul 6 c, nI_add, nI_add]
            refine br2 (nI_ge (by omega) (by omega)) (br2 (by decide) ⟨vp_in_nI (by omega) (by decide), vp_in_nI (by omega) (by decide), ?_⟩)
            rw [nI_clamp (by omega), nI_clamp (by omega), cell a haa e (by omega), cell c (by omega) e (by omega), nI_1]
            by_cases g : (dkS k n a).getD (n - 1 - e) 0 = (dkS k n c).getD (n - 1 - e) 0
            · refine br4 (by rw [g]) (ihq (e + 1) (by omega) (fun t ht => ?_))
              by_cases c2 : t = e
              · subst c2; exact g
              · exact hs t (by omega)
            · refine br3 (fun h => g (rvI_inj (small a e (by omega)) (small c e (by omega)) h)) ?_
              have ne : dkS k n a ≠ dkS k n c := fun h => g (by rw [h])
              unfold F_X12_twins_81
              exact ⟨fun _ => no ne, fun _ => br1 rfl (no ne)⟩
        exact inner n 0 (by omega) (fun t ht => absurd ht (Nat.not_lt_zero _))
    exact mid a 0 (by omega)
theorem r_twins30 {k : KD} (hk : KOk k) {w forms many : Nat → Int32} (hU : LvUp k 7 forms many) {n : Nat} (h1 : 2 ≤ n) (h2 : n ≤ kSz k) {th : Int32} {post : Int32 → Int32 → Int32 → Int32 → Int32 → Int32 → Int32 → (Nat → Int32) → (Nat → Int32) → (Nat → Int32) → (Nat → Int32) → Prop} (K : ∀ d f l nn s b dd o1 o2, post (nI (ocT k n (lvl k n).length)) d f l nn s th b dd o1 o2) : ∀ j a d f l nn s b dd o1 o2, a + j = (lvl k n).length → (∀ c, c < a → RowA dd (6 * c) (dkS k n c)) → F_X12_twins_30 forms many w post (j + 1) (nI n) (nI a) d f l nn s th b dd o1 o2 := by
  have hsz := size_le hk
  have hln := lvl_len k n (by omega)
  intro j
  induction j with
  | zero =>
    intro a d f l nn s b dd o1 o2 ha hdd
    have : a = (lvl k n).length := by omega
    subst this
    unfold F_X12_twins_30
    refine ⟨vp_in_nI (by omega) (by decide), ?_⟩
    rw [many_at hU (by omega) (by omega)]
    exact br1 (nI_le (Nat.le_refl _) (by omega)) ⟨(lvl k n).length + 1, r_twins56 hk hU h1 h2 hdd (K _ _ _ _ _ _ _ _ _) _ 0 (by omega)⟩
  | succ j ih =>
    intro a d f l nn s b dd o1 o2 ha hdd
    have haa : a < (lvl k n).length := by omega
    unfold F_X12_twins_30
    refine ⟨vp_in_nI (by omega) (by decide), ?_⟩
    rw [many_at hU (by omega) (by omega)]
    refine br2 (nI_ge haa (by omega)) (f_laysDeck hk hU h1 h2 haa (fun dd2 e1 e2 d f l nn s b o1 o2 => ?_))
    rw [nI_1]
    refine ih (a + 1) _ _ _ _ _ _ _ _ _ (by omega) (fun c hc => ?_)
    by_cases g : c = a
    · subst g; exact e2
    · intro s hs
      have hl := (dsL_ok k (show n ≤ 6 by omega) ((lvl k n).getD c 0) n).1
      have hl : (dkS k n c).length = n := hl
      rw [e1 _ (by omega)]
      exact hdd c (by omega) s hs
theorem lc20 (xs : Nat → Int32) (L : Nat) (hL3 : L ≤ 3072) : LC20 xs L IInv := by
  unfold LC20
  intro x4 m_begin m_dark m_end m_faultAt m_form m_hasImage m_heldDark m_lasts m_nodes m_pairs m_point m_symmetries m_taped m_thrown m_toldEdges m_toldForm m_toldNodes m_toldSymmetries m_writtenMany m_by m_decks m_draft m_firstOrder m_five m_forms m_held m_image m_many m_order m_seen m_tape m_toldOrder m_world m_written o x_hasImage x_cycleSums_edges x_cycleSums_hasDark x_cycleSums_parts x_cycleSums_ways x_decks x_draft_bannedCircles x_draft_endLines x_draft_endsJoined x_draft_fewestEdges x_draft_hasDark x_draft_least x_draft_most x_draft_mostEdges x_draft_patterns x_draft_ruleLines x_draft_size x_draft_unlike x_draft_words x_draft_patternCodes x_draft_patternNodes x_forms_allBits x_forms_firstOrder x_forms_isBeaten x_forms_isStudy x_forms_isTest x_forms_least x_forms_nodes x_forms_order x_forms_seen x_forms_stillEdges x_forms_symmetries x_forms_sketch_colours x_forms_sketch_darks x_forms_sketch_nodes x_forms_sketch_fans x_forms_sketch_near x_keptLevels_total x_keptLevels_codes x_keptLevels_firsts x_keptRules_bannedCircles x_keptRules_endLines x_keptRules_endsJoined x_keptRules_fewestEdges x_keptRules_hasDark x_keptRules_least x_keptRules_most x_keptRules_mostEdges x_keptRules_patterns x_keptRules_ruleLines x_keptRules_size x_keptRules_unlike x_keptRules_words x_keptRules_patternCodes x_keptRules_patternNodes x_keptWalkers_allParts x_keptWalkers_depths x_keptWalkers_lists x_keptWalkers_ownParts x_levels_total x_levels_codes x_levels_firsts x_match_best x_match_code x_match_one_colours x_match_one_darks x_match_one_nodes x_match_one_fans x_match_one_near x_match_two_colours x_match_two_darks x_match_two_nodes x_match_two_fans x_match_two_near x_page_length x_page_bytes x_rules_bannedCircles x_rules_endLines x_rules_endsJoined x_rules_fewestEdges x_rules_hasDark x_rules_least x_rules_most x_rules_mostEdges x_rules_patterns x_rules_ruleLines x_rules_size x_rules_unlike x_rules_words x_rules_patternCodes x_rules_patternNodes x_sketch_colours x_sketch_darks x_sketch_nodes x_sketch_fans x_sketch_near x_tape_begun x_tape_length x_tape_position x_tape_wrong x_tape_bytes x_texts_code x_texts_nodes x_toldForms_allBits x_toldForms_firstOrder x_toldForms_isBeaten x_toldForms_isStudy x_toldForms_isTest x_toldForms_least x_toldForms_nodes x_toldForms_order x_toldForms_seen x_toldForms_stillEdges x_toldForms_symmetries x_toldForms_sketch_colours x_toldForms_sketch_darks x_toldForms_sketch_nodes x_toldForms_sketch_fans x_toldForms_sketch_near x_walkers_allParts x_walkers_depths x_walkers_lists x_walkers_ownParts hx0 hxL hI
  obtain ⟨k, hT, hK, hW, hG, hD, hO, hP⟩ := hI
  obtain ⟨hk, hw, ⟨q1, q2, q3, q4, q5, q6, q7, q8, q9, q10, q11, q12, hp⟩, hL, hU⟩ := hK
  subst q1 q2 q3 q4 q5 q6 q7 q8 q9 q10 q11 q12
  have hsz := size_le hk
  have a1 := arg_in hx0 hxL (by omega) (j := 1) (by omega)
  have a2 := arg_in hx0 hxL (by omega) (j := 2) (by omega)
  have a3 := arg_in hx0 hxL (by omega) (j := 3) (by omega)
  have a4 := arg_in hx0 hxL (by omega) (j := 4) (by omega)
  have a5 := arg_in hx0 hxL (by omega) (j := 5) (by omega)
  have o0 := vp_in_nI (n := 0) (N := 1) (by decide) (by decide)
  
  unfold F_law_c20 F_L_twins F_law_c20_1698
  refine ⟨a1, ?_⟩
  generalize xs (x4 + 1).toNatClampNeg = p1
  unfold F_X11_twins F_X12_twins F_X12_twins_19 F_X12_twins_26 F_X12_thrown
  rcases rng p1 (a := 1) (b := kSz k) (by decide) (by omega) with h | ⟨n, h1, h2, rfl⟩
  · exact x_needLevel_n h (Or.inl ⟨rfl, a1, f_noLevel_n hw h (br3 (by decide) (law_fin rfl (fun e => absurd e (by decide)) ⟨rfl, k, hT, ⟨hk, hw, ⟨rfl, rfl, rfl, rfl, rfl, rfl, rfl, rfl, rfl, rfl, rfl, rfl, hp⟩, hL, hU⟩, hW, hG, hD, hO, hP⟩))⟩)
  · have hln := lvl_len k n (by omega)
    refine x_needLevel_y h1 h2 (by omega) ?_
    by_cases e : n = 1
    · subst e
      exact br4 rfl (Or.inr ⟨rfl, a1, f_noLevel_y hk hw h1 h2 (br4 rfl (br4 rfl (f_throws1 (br2 (by decide) (law_fin rfl (fun e => absurd e (by decide)) ⟨rfl, k, hT, ⟨hk, hw, ⟨rfl, rfl, rfl, rfl, rfl, rfl, rfl, rfl, rfl, rfl, rfl, rfl, hp⟩, hL, hU⟩, hW, hG, hD, hO, hP⟩)))))⟩)
    · have ne : ¬ nI n = 1 := fun g => e (ni_inj (b := 1) (by omega) (by decide) g)
      refine br3 ne (f_amount hL.2.1 h1 (by omega) (by omega) ⟨(lvl k n).length + 1, ?_⟩)
      rw [if_neg (show ¬ (544 : Int32) < nI (lvl k n).length from fun g => by
        rw [Int32.lt_iff_toInt_lt, nI_toInt (by omega)] at g
        have e5 : (544 : Int32).toInt = 544 := by decide
        omega)]
      refine x_twins hk hL (by omega) h2 (fun dd ab fo ib is' it le nn od se sl sy cl dk' sn fans near hod => ⟨o0, a1, f_noLevel_y hk hw h1 h2 (br4 rfl (br3 ne (f_throws0 (br1 rfl ⟨(lvl k n).length + 1, r_twins30 hk hU (by omega) h2 (fun d f l nn s b dd o1 o2 => ?_) _ 0 _ _ _ _ _ _ _ _ _ (by omega) (fun c hc => absurd hc (Nat.not_lt_zero _))⟩))))⟩) _ 0 _ _ _ _ _ _ _ _ _ _ _ _ _ _ _ _ _ hO.1 (by omega) (fun b hb => absurd hb (Nat.not_lt_zero _))
      have hO : ordOk od ∧ ordOk x_toldForms_order := ⟨hod, hO.2⟩
      exact law_fin rfl (fun _ => updL_in) ⟨rfl, k, hT, ⟨hk, hw, ⟨rfl, rfl, rfl, rfl, rfl, rfl, rfl, rfl, rfl, rfl, rfl, rfl, hp⟩, hL, hU⟩, hW, hG, hD, hO, hP⟩
