/-! the reference: whether a told net lies within -/
def ipI (B : Nat → Nat) (P : Nat) (t : List Nat) (a : Nat) : Nat → Nat → Bool → Bool
  | 0, _, is => is
  | j + 1, b, is => ipI B P t a j (b + 1) (is && ((B (t.getD a 0)).testBit (t.getD b 0) == P.testBit (a * (a - 1) / 2 + b)))
def ipO (B : Nat → Nat) (P : Nat) (t : List Nat) : Nat → Nat → Bool → Bool
  | 0, _, is => is
  | j + 1, a, is => ipO B P t j (a + 1) (ipI B P t a a 0 is)
def isP (B : Nat → Nat) (P : Nat) (t : List Nat) : Bool := ipO B P t t.length 0 true
def hbF (n : Nat) (B : Nat → Nat) (m P : Nat) : Nat → List Nat → Nat → Bool
  | 0, _, _ => false
  | d + 1, pl, tk => if pl.length = m then isP B P pl else anyF (fun a => !tk.testBit a && hbF n B m P d (pl ++ [a]) (tk ||| 2 ^ a)) n 0
def hasP (n : Nat) (B : Nat → Nat) (m P : Nat) : Bool := (lv n m [] 0).any (isP B P)
theorem anyF_eq (g : Nat → Bool) : ∀ j v, anyF g j v = (List.range' v j).any g
  | 0, v => rfl
  | j + 1, v => by
    rw [anyF, List.range'_succ, List.any_cons, anyF_eq g j (v + 1)]
    cases g v <;> rfl
theorem hb_lv {n : Nat} {B : Nat → Nat} {m P : Nat} : ∀ d pl tk, pl.length ≤ m → m < pl.length + d → hbF n B m P d pl tk = (lv n (m - pl.length) pl tk).any (isP B P)
  | 0, pl, tk, h1, h2 => by omega
  | d + 1, pl, tk, h1, h2 => by
    rw [hbF]
    split
    · rename_i e
      rw [e, Nat.sub_self]; simp [lv]
    · rename_i e
      rw [show m - pl.length = (m - (pl.length + 1)) + 1 by omega, lv, List.any_flatMap, anyF_eq, List.range_eq_range']
      congr 1
      funext a
      by_cases g : tk.testBit a = true
      · simp [g]
      · have ih := hb_lv (n := n) (B := B) (m := m) (P := P) d (pl ++ [a]) (tk ||| 2 ^ a) (by simp; omega) (by simp; omega)
        rw [List.length_append] at ih
        simp only [List.length_cons, List.length_nil, Nat.zero_add] at ih
        simp [g, ih]
def pk : List Nat → Nat
  | [] => 0
  | a :: r => a + 8 * pk r
theorem pkL_lt : ∀ (l : List Nat), (∀ x ∈ l, x < 8) → pk l < 2 ^ (3 * l.length)
  | [], _ => by simp [pk]
  | a :: r, h => by
    have ih := pkL_lt r (fun x hx => h x (by simp [hx]))
    have := h a (by simp)
    rw [pk, List.length_cons, show 3 * (r.length + 1) = 3 + 3 * r.length by omega, Nat.pow_add]
    omega
theorem pk_snoc : ∀ (l : List Nat) (a : Nat), pk (l ++ [a]) = pk l + a * 2 ^ (3 * l.length)
  | [], a => by simp [pk]
  | b :: r, a => by
    rw [List.cons_append, pk, pk_snoc r a, pk, List.length_cons, show 3 * (r.length + 1) = 3 + 3 * r.length by omega, Nat.pow_add]
    have : a * (2 ^ 3 * 2 ^ (3 * r.length)) = 8 * (a * 2 ^ (3 * r.length)) := by rw [show (2 : Nat) ^ 3 = 8 from rfl, ← Nat.mul_assoc, ← Nat.mul_assoc, Nat.mul_comm a 8]
    omega
theorem pk_get : ∀ (l : List Nat) (i : Nat), (∀ x ∈ l, x < 8) → i < l.length → pk l / 2 ^ (3 * i) % 8 = l.getD i 0
  | [], i, _, h => absurd h (Nat.not_lt_zero _)
  | a :: r, 0, h, _ => by
    have := h a (by simp)
    simp [pk]; omega
  | a :: r, i + 1, h, hi => by
    have := h a (by simp)
    have ih := pk_get r i (fun x hx => h x (by simp [hx])) (by simpa using hi)
    rw [pk, show 3 * (i + 1) = 3 + 3 * i by omega, Nat.pow_add, ← Nat.div_div_eq_div_mul, show (a + 8 * pk r) / 2 ^ 3 = pk r by omega, ih]
    rfl
theorem pk_fld {l : List Nat} {i : Nat} (hl : l.length ≤ 5) (h : ∀ x ∈ l, x < 8) (hi : i < l.length) : ((nI (pk l) >>> (((3 : Int32) * nI i) &&& 31)) &&& 7) = nI (l.getD i 0) := by
  have hp := pkL_lt l h
  have p2 : 2 ^ (3 * l.length) ≤ 2 ^ 15 := Nat.pow_le_pow_right (by decide) (by omega)
  rw [show (3 : Int32) * nI i = nI (3 * i) from ni_mul 3 i, ni_shr (by omega) (by omega)]
  show nI _ &&& nI (2 ^ 3 - 1) = _
  rw [ni_and, Nat.and_two_pow_sub_one_eq_mod, show 2 ^ 3 = 8 from rfl, pk_get l i h hi]
theorem getD_mem {l : List Nat} {i : Nat} (hi : i < l.length) : l.getD i 0 ∈ l := by
  rw [List.getD_eq_getElem?_getD, List.getElem?_eq_getElem hi]
  exact List.getElem_mem hi
theorem f_isBarredBy {n : Nat} {B : Nat → Nat} {by' : Nat → Int32} (h : RN n B by') {row : Nat → Int32} {w P : Nat} (hw : w < 2) (hP : row (8 + 2 * w + 1) = nI P) (hP2 : P < 2 ^ 31) {t : List Nat} (ht : t.length ≤ 4) (htn : ∀ x ∈ t, x < n) {post : Int32 → Prop} (K : post (nI (isP B P t).toNat)) : F_X12_isBarredBy 30 row by' (nI w) (nI t.length) (nI (pk t)) post := by
  have hn := h.1
  unfold F_X12_isBarredBy
  have e1 : (8 : Int32) + 2 * nI w + 1 = nI (8 + 2 * w + 1) := by
    rw [show (2 : Int32) * nI w = nI (2 * w) from ni_mul 2 w]
    show nI 8 + _ + nI 1 = _
    rw [nI_add, nI_add]
  rw [e1]
  refine ⟨vp_in_nI (by omega) (by decide), ?_⟩
  rw [nI_clamp (by omega), hP]
  have t8 : ∀ x ∈ t, x < 8 := fun x hx => by have := htn x hx; omega
  have inner : ∀ (a : Nat) (K18 : Int32 → Int32 → Int32 → Int32 → Int32 → Prop), a < t.length → ∀ j b is, b + j = a → K18 (nI t.length) (nI (pk t)) (nI P) (nI (ipI B P t a j b is).toNat) (nI (a + 1)) → F_X12_isBarredBy_27 30 row by' post K18 (j + 1) (nI t.length) (nI (pk t)) (nI P) (nI is.toNat) (nI a) (nI b) := by
    intro a K18 ha j
    induction j with
    | zero =>
      intro b is hb K2
      have : b = a := by omega
      subst this
      unfold F_X12_isBarredBy_27
      refine br1 (Int32.le_refl _) ?_
      rw [nI_1]; exact K2
    | succ j ih =>
      intro b is hb K2
      rw [ipI] at K2
      unfold F_X12_isBarredBy_27 F_X12_isBarredBy_91 F_X12_isBarredBy_92
      have hta := htn _ (getD_mem ha)
      have htb := htn _ (getD_mem (show b < t.length by omega))
      have b64 : B (t.getD a 0) < 64 := RN_lt h hta
      have hq : a * (a - 1) ≤ 4 * 4 := Nat.mul_le_mul (by omega) (by omega)
      refine br2 (nI_ge (by omega) (by omega)) ⟨fun g => ?_, fun g => ?_⟩
      · rw [bnz] at g
        subst g
        try dsimp only
        rw [nI_1]
        exact ih (b + 1) false (by omega) K2
      · have g : is = true := by
          cases is with
          | true => rfl
          | false => exact absurd rfl g
        subst g
        rw [pk_fld (by omega) t8 ha, pk_fld (by omega) t8 (show b < t.length by omega)]
        refine ⟨v6 hn hta, ?_⟩
        rw [RN_at h hta]
        refine f_holds (by omega) (by omega) ?_
        have e2 : (nI a * (nI a - 1)) / 2 + nI b = nI (a * (a - 1) / 2 + b) := by
          have : nI a - 1 = nI (a - 1) := by show nI a - nI 1 = _; rw [ni_sub (by omega)]
          rw [this, ni_mul]
          show nI _ / nI 2 + _ = _
          rw [ni_div (by omega) (by decide) (by decide), nI_add]
        rw [e2]
        refine f_holds hP2 (by omega) ⟨fun g2 => ?_, fun g2 => ?_⟩
        · have g2 : ((B (t.getD a 0)).testBit (t.getD b 0) == P.testBit (a * (a - 1) / 2 + b)) = false := by
            revert g2
            cases (B (t.getD a 0)).testBit (t.getD b 0) <;> cases P.testBit (a * (a - 1) / 2 + b) <;> simp
          rw [g2] at K2
          try dsimp only
          rw [nI_1]
          exact ih (b + 1) false (by omega) K2
        · have g2 : ((B (t.getD a 0)).testBit (t.getD b 0) == P.testBit (a * (a - 1) / 2 + b)) = true := by
            revert g2
            cases (B (t.getD a 0)).testBit (t.getD b 0) <;> cases P.testBit (a * (a - 1) / 2 + b) <;> simp <;> decide
          rw [g2] at K2
          rw [nI_1]
          exact ih (b + 1) true (by omega) K2
  refine ⟨t.length + 1, ?_⟩
  have main : ∀ j a is, a + j = t.length → post (nI (ipO B P t j a is).toNat) → F_X12_isBarredBy_18 30 row by' post (j + 1) (nI t.length) (nI (pk t)) (nI P) (nI is.toNat) (nI a) := by
    intro j
    induction j with
    | zero =>
      intro a is ha K2
      have : a = t.length := by omega
      subst this
      unfold F_X12_isBarredBy_18
      exact br1 (Int32.le_refl _) ⟨bb1 _, K2⟩
    | succ j ih =>
      intro a is ha K2
      unfold F_X12_isBarredBy_18
      refine br2 (nI_ge (by omega) (by omega)) ⟨a + 1, ?_⟩
      exact inner a _ (by omega) a 0 is (by omega) (ih (a + 1) _ (by omega) K2)
  exact main t.length 0 true (by omega) K
theorem hb_ok {n : Nat} {B : Nat → Nat} {by' : Nat → Int32} (h : RN n B by') {row : Nat → Int32} {w P m : Nat} (hw : w < 2) (hm : row (8 + 2 * w) = nI m) (hm4 : m ≤ 4) (hP : row (8 + 2 * w + 1) = nI P) (hP2 : P < 2 ^ 31) : ∀ (d : Nat) (pl : List Nat) (tk : Nat) (post : Int32 → Prop), pl.length ≤ m → m < pl.length + d → (∀ x ∈ pl, x < n) → tk < 2 ^ n → post (nI (hbF n B m P d pl tk).toNat) → F_X12_hasBarred d 30 row (nI n) by' (nI w) (nI pl.length) (nI tk) (nI (pk pl)) post
  | 0, pl, tk, post, h1, h2, _, _, _ => absurd h2 (by omega)
  | d + 1, pl, tk, post, h1, h2, hpl, htk, K => by
    have hn := h.1
    have t64 := lt64 hn htk
    rw [F_X12_hasBarred]
    unfold FB_X12_hasBarred
    have e1 : (8 : Int32) + 2 * nI w = nI (8 + 2 * w) := by
      rw [show (2 : Int32) * nI w = nI (2 * w) from ni_mul 2 w]
      show nI 8 + _ = _
      rw [nI_add]
    rw [e1]
    refine ⟨vp_in_nI (by omega) (by decide), ?_⟩
    rw [nI_clamp (by omega), hm]
    rw [hbF] at K
    by_cases e : pl.length = m
    · rw [if_pos e] at K
      refine br4 (by rw [e]) ?_
      rw [← e]
      exact f_isBarredBy h hw hP hP2 (by omega) hpl ⟨bb1 _, K⟩
    · rw [if_neg e] at K
      refine br3 (fun g => e (ni_inj (by omega) (by omega) g)) ⟨n + 1, ?_⟩
      have p8 : ∀ x ∈ pl, x < 8 := fun x hx => by have := hpl x hx; omega
      have main : ∀ j a, a + j = n → post (nI (anyF (fun a => !tk.testBit a && hbF n B m P d (pl ++ [a]) (tk ||| 2 ^ a)) j a).toNat) → F_X12_hasBarred_33 (F_X12_hasBarred d) 30 row (nI n) by' post (j + 1) (nI w) (nI pl.length) (nI tk) (nI (pk pl)) 0 (nI a) := by
        intro j
        induction j with
        | zero =>
          intro a ha K2
          have : a = n := by omega
          subst this
          unfold F_X12_hasBarred_33 F_X12_hasBarred_98
          exact br1 (Int32.le_refl _) ⟨by decide, K2⟩
        | succ j ih =>
          intro a ha K2
          rw [anyF] at K2
          unfold F_X12_hasBarred_33 F_X12_hasBarred_89 F_X12_hasBarred_90
          refine br2 (nI_ge (by omega) (by omega)) (br4 rfl (f_holds (by omega) (by omega) ⟨fun g => ?_, fun g => ?_⟩))
          · have g : tk.testBit a = true := by
              cases e2 : tk.testBit a with
              | true => rfl
              | false => rw [e2] at g; exact absurd rfl g
            simp only [g, Bool.not_true, Bool.false_and, Bool.false_eq_true, if_false] at K2
            try dsimp only
            rw [nI_1]
            exact ih (a + 1) (by omega) K2
          · rw [bnz] at g
            simp only [g, Bool.not_false, Bool.true_and] at K2
            have e2 : nI (pk pl) ||| (nI a <<< (((3 : Int32) * nI pl.length) &&& 31)) = nI (pk (pl ++ [a])) := by
              rw [show (3 : Int32) * nI pl.length = nI (3 * pl.length) from ni_mul 3 _, ni_shl _ (by omega), ni_or, pk_snoc, Nat.or_comm, Nat.mul_comm, ← Nat.two_pow_add_eq_or_of_lt (pkL_lt pl p8), Nat.mul_comm, Nat.add_comm]
            have e3 : nI pl.length + 1 = nI (pl ++ [a]).length := by rw [nI_1]; simp
            rw [ni_1shl (by omega), ni_or, e2, e3]
            refine hb_ok h hw hm hm4 hP hP2 d (pl ++ [a]) (tk ||| 2 ^ a) _ (by simp; omega) (by simp; omega) (fun x hx => ?_) (Nat.or_lt_two_pow htk (Nat.pow_lt_pow_right (by decide) (by omega))) ⟨fun g2 => ?_, fun g2 => ?_⟩
            · rcases List.mem_append.mp hx with hx | hx
              · exact hpl x hx
              · simp at hx; omega
            · rw [bnz] at g2
              rw [g2] at K2
              try dsimp only
              rw [nI_1]
              exact ih (a + 1) (by omega) K2
            · have g2 : hbF n B m P d (pl ++ [a]) (tk ||| 2 ^ a) = true := by
                cases e4 : hbF n B m P d (pl ++ [a]) (tk ||| 2 ^ a) with
                | true => rfl
                | false => rw [e4] at g2; exact absurd rfl g2
              rw [g2] at K2
              try dsimp only
              rw [nI_1]
              cases j with
              | zero =>
                unfold F_X12_hasBarred_33 F_X12_hasBarred_98
                exact ⟨fun _ => ⟨by decide, K2⟩, fun _ => br3 (show ¬ (1 : Int32) = 0 by decide) ⟨by decide, K2⟩⟩
              | succ j =>
                unfold F_X12_hasBarred_33 F_X12_hasBarred_98
                exact ⟨fun _ => ⟨by decide, K2⟩, fun _ => br3 (show ¬ (1 : Int32) = 0 by decide) ⟨by decide, K2⟩⟩
      exact main n 0 (by omega) K
theorem f_hasBarred {n : Nat} {B : Nat → Nat} {by' : Nat → Int32} (h : RN n B by') {row : Nat → Int32} {w P m : Nat} (hw : w < 2) (hm : row (8 + 2 * w) = nI m) (hm4 : m ≤ 4) (hP : row (8 + 2 * w + 1) = nI P) (hP2 : P < 2 ^ 31) {post : Int32 → Prop} (K : post (nI (hasP n B m P).toNat)) : F_X12_hasBarred 10 30 row (nI n) by' (nI w) 0 0 0 post := by
  refine hb_ok h hw hm hm4 hP hP2 10 [] 0 post (by simp) (by simp; omega) (by simp) (Nat.pow_pos (by decide)) ?_
  rw [hb_lv 10 [] 0 (by simp) (by simp; omega)]
  exact K
