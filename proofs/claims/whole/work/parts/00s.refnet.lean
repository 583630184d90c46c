/-! the reference's net: what is read off it -/
def anyF (g : Nat → Bool) : Nat → Nat → Bool
  | 0, _ => false
  | j + 1, v => if g v then true else anyF g j (v + 1)
def cbF (n : Nat) (B : Nat → Nat) : Nat → Nat → Nat → Nat → Nat → Bool
  | 0, _, _, _, _ => false
  | d + 1, fi, la, us, more => if more = 0 then (B la).testBit fi else anyF (fun v => (B la).testBit v && (!us.testBit v && cbF n B d fi v (us ||| 2 ^ v) (more - 1))) n 0
def hcF (n : Nat) (B : Nat → Nat) (many : Nat) : Bool := if n < many then false else anyF (fun v => cbF n B 10 v v (2 ^ v) (many - 1)) n 0
def scF (n : Nat) (B : Nat → Nat) : Nat → Nat → Nat
  | 0, _ => 0
  | j + 1, k => if hcF n B k then k else scF n B j (k + 1)
def auI (D : Nat) (B : Nat → Nat) (a : Nat) : Nat → Nat → Bool → Bool
  | 0, _, is => is
  | j + 1, b, is => auI D B a j (b + 1) (is && !((B a).testBit b && (D.testBit a == D.testBit b)))
def auO (n D : Nat) (B : Nat → Nat) : Nat → Nat → Bool → Bool
  | 0, _, is => is
  | j + 1, a, is => auO n D B j (a + 1) (auI D B a n 0 is)
def poI (B : Nat → Nat) : Nat → Nat → Nat → Nat
  | 0, _, s => s
  | j + 1, k, s => poI B j (k + 1) (if s.testBit k then s ||| B k else s)
def poF (n : Nat) (B : Nat → Nat) : Nat → Nat → Nat → Option Nat
  | 0, _, _ => none
  | f + 1, s, was => if s = was then some s else poF n B f (poI B n 0 s) s
def pnF (n : Nat) (B : Nat → Nat) : Nat → Nat → Nat → Option Nat
  | 0, _, x => some x
  | j + 1, a, x => match poF n B 10 (2 ^ a) 0 with
    | none => none
    | some s => pnF n B j (a + 1) (x + (if s &&& (2 ^ a - 1) = 0 then 1 else 0))
def enF (B : Nat → Nat) : Nat → Nat → Nat → Nat
  | 0, _, x => x
  | j + 1, k, x => enF B j (k + 1) (x + popc (B k) 24)
def wiF (n : Nat) (B : Nat → Nat) : Nat → Nat → Nat → Option (Option Nat)
  | 0, _, _ => none
  | f + 1, s, far => if s = 2 ^ n - 1 then some (some far) else if stepF B s n = s then some none else wiF n B f (stepF B s n) (far + 1)
def wtF (n : Nat) (B : Nat → Nat) : Nat → Nat → Nat → Option (Option Nat)
  | 0, _, most => some (some most)
  | j + 1, a, most => match wiF n B 10 (2 ^ a) 0 with
    | none => none
    | some none => some none
    | some (some far) => wtF n B j (a + 1) (max most far)
def RN (n : Nat) (B : Nat → Nat) (by' : Nat → Int32) : Prop := n ≤ 6 ∧ ∀ v, v < n → by' v = nI (B v) ∧ B v < 2 ^ n
theorem RN_lt {n : Nat} {B : Nat → Nat} {by' : Nat → Int32} (h : RN n B by') {v : Nat} (hv : v < n) : B v < 64 := lt64 h.1 (h.2 v hv).2
theorem RN_at {n : Nat} {B : Nat → Nat} {by' : Nat → Int32} (h : RN n B by') {v : Nat} (hv : v < n) : by' (nI v).toNatClampNeg = nI (B v) := by
  have := h.1
  rw [nI_clamp (by omega), (h.2 v hv).1]
theorem v6 {n v : Nat} (hn : n ≤ 6) (hv : v < n) : vp_in (nI v) 6 := vp_in_nI (by omega) (by decide)
theorem bb1 (b : Bool) : nI b.toNat &&& 1 = nI b.toNat := by cases b <;> decide
theorem bnz (b : Bool) : nI b.toNat = 0 ↔ b = false := by cases b <;> decide
theorem cb_ok {n : Nat} {B : Nat → Nat} {by' : Nat → Int32} (h : RN n B by') : ∀ (d fi la us more : Nat) (post : Int32 → Prop), more < d → d < 100 → fi < n → la < n → us < 2 ^ n → post (nI (cbF n B d fi la us more).toNat) → F_X12_comesBack d (nI n) by' (nI fi) (nI la) (nI us) (nI more) post
  | 0, fi, la, us, more, post, hd, _, _, _, _, _ => absurd hd (Nat.not_lt_zero _)
  | d + 1, fi, la, us, more, post, hd, hd2, hfi, hla, hus, K => by
    have hn := h.1
    have us64 := lt64 hn hus
    have b64 : B la < 64 := RN_lt h hla
    rw [F_X12_comesBack]
    unfold FB_X12_comesBack
    rw [cbF] at K
    by_cases e : more = 0
    · subst e
      rw [if_pos rfl] at K
      refine br4 rfl ⟨v6 hn hla, ?_⟩
      rw [RN_at h hla]
      exact f_holds (by omega) (by omega) ⟨bb1 _, K⟩
    · rw [if_neg e] at K
      refine br3 (fun g => e (ni_inj (b := 0) (by omega) (by decide) g)) ⟨n + 1, ?_⟩
      have ex : nI more - 1 = nI (more - 1) := by show nI more - nI 1 = _; rw [ni_sub (by omega)]
      have main : ∀ j v, v + j = n → post (nI (anyF (fun v => (B la).testBit v && (!us.testBit v && cbF n B d fi v (us ||| 2 ^ v) (more - 1))) j v).toNat) → F_X12_comesBack_22 (F_X12_comesBack d) (nI n) by' post (j + 1) (nI fi) (nI la) (nI us) (nI more) 0 (nI v) := by
        intro j
        induction j with
        | zero =>
          intro v hv K
          have : v = n := by omega
          subst this
          unfold F_X12_comesBack_22 F_X12_comesBack_92
          exact br1 (Int32.le_refl _) ⟨by decide, K⟩
        | succ j ih =>
          intro v hv K
          rw [anyF] at K
          unfold F_X12_comesBack_22 F_X12_comesBack_83 F_X12_comesBack_84
          refine br2 (nI_ge (by omega) (by omega)) (br4 rfl ⟨v6 hn hla, ?_⟩)
          rw [RN_at h hla]
          refine f_holds (by omega) (by omega) ⟨fun g => ?_, fun g => f_holds (by omega) (by omega) ⟨fun g2 => ?_, fun g2 => ?_⟩⟩
          · rw [bnz] at g
            rw [nI_1]
            refine ih (v + 1) (by omega) ?_
            simp only [g, Bool.false_and, Bool.false_eq_true, if_false] at K
            exact K
          · have g2 : us.testBit v = true := by
              cases e2 : us.testBit v with
              | true => rfl
              | false => rw [e2] at g2; exact absurd rfl g2
            dsimp only
            rw [nI_1]
            refine ih (v + 1) (by omega) ?_
            simp only [g2, Bool.not_true, Bool.false_and, Bool.and_false, Bool.false_eq_true, if_false] at K
            exact K
          · have g : (B la).testBit v = true := by
              cases e2 : (B la).testBit v with
              | true => rfl
              | false => rw [e2] at g; exact absurd rfl g
            rw [bnz] at g2
            simp only [g, g2, Bool.not_false, Bool.true_and] at K
            rw [ni_1shl (by omega), ni_or, ex]
            refine cb_ok h d fi v (us ||| 2 ^ v) (more - 1) _ (by omega) (by omega) hfi (by omega) (Nat.or_lt_two_pow hus (Nat.pow_lt_pow_right (by decide) (by omega))) ?_
            refine ⟨fun g3 => ?_, fun g3 => ?_⟩
            · rw [bnz] at g3
              rw [g3] at K
              rw [nI_1]
              exact ih (v + 1) (by omega) K
            · have g3 : cbF n B d fi v (us ||| 2 ^ v) (more - 1) = true := by
                cases e2 : cbF n B d fi v (us ||| 2 ^ v) (more - 1) with
                | true => rfl
                | false => rw [e2] at g3; exact absurd rfl g3
              rw [g3] at K
              rw [nI_1]
              cases j with
              | zero =>
                unfold F_X12_comesBack_22 F_X12_comesBack_92
                exact ⟨fun _ => ⟨by decide, K⟩, fun _ => br3 (show ¬ (1 : Int32) = 0 by decide) ⟨by decide, K⟩⟩
              | succ j =>
                unfold F_X12_comesBack_22 F_X12_comesBack_92
                exact ⟨fun _ => ⟨by decide, K⟩, fun _ => br3 (show ¬ (1 : Int32) = 0 by decide) ⟨by decide, K⟩⟩
      exact main n 0 (by omega) K
theorem f_hasCircle {n : Nat} {B : Nat → Nat} {by' : Nat → Int32} (h : RN n B by') (h1 : 1 ≤ n) {many : Nat} (hm : many ≤ 9) (hm1 : 1 ≤ many) {post : Int32 → Prop} (K : post (nI (hcF n B many).toNat)) : F_X12_hasCircle (nI n) by' (nI many) post := by
  unfold F_X12_hasCircle
  have hn := h.1
  unfold hcF at K
  have ex : nI many - 1 = nI (many - 1) := by show nI many - nI 1 = _; rw [ni_sub (by omega)]
  by_cases e : n < many
  · rw [if_pos e] at K
    refine ⟨1, ?_⟩
    unfold F_X12_hasCircle_4 F_X12_hasCircle_43
    exact br2 (nI_ge (a := 0) (by omega) (by omega)) (br4 rfl (br1 (nI_lt e (by omega)) ⟨by decide, K⟩))
  · rw [if_neg e] at K
    refine ⟨n + 1, ?_⟩
    have main : ∀ j v, v + j = n → post (nI (anyF (fun v => cbF n B 10 v v (2 ^ v) (many - 1)) j v).toNat) → F_X12_hasCircle_4 (nI n) by' post (j + 1) (nI many) 0 (nI v) := by
      intro j
      induction j with
      | zero =>
        intro v hv K2
        have : v = n := by omega
        subst this
        unfold F_X12_hasCircle_4 F_X12_hasCircle_43
        exact br1 (Int32.le_refl _) ⟨by decide, K2⟩
      | succ j ih =>
        intro v hv K2
        rw [anyF] at K2
        unfold F_X12_hasCircle_4 F_X12_hasCircle_43
        refine br2 (nI_ge (by omega) (by omega)) (br4 rfl (br2 (nI_nlt (by omega) (by omega)) ?_))
        rw [ni_1shl (by omega), ex]
        refine cb_ok h 10 v v (2 ^ v) (many - 1) _ (by omega) (by omega) (by omega) (by omega) (Nat.pow_lt_pow_right (by decide) (by omega)) ?_
        rw [nI_1]
        cases e2 : cbF n B 10 v v (2 ^ v) (many - 1) with
        | false =>
          rw [e2] at K2
          exact ih (v + 1) (by omega) K2
        | true =>
          rw [e2] at K2
          cases j with
          | zero =>
            unfold F_X12_hasCircle_4 F_X12_hasCircle_43
            exact ⟨fun _ => ⟨by decide, K2⟩, fun _ => br3 (show ¬ (nI true.toNat) = 0 by decide) ⟨by decide, K2⟩⟩
          | succ j =>
            unfold F_X12_hasCircle_4 F_X12_hasCircle_43
            exact ⟨fun _ => ⟨by decide, K2⟩, fun _ => br3 (show ¬ (nI true.toNat) = 0 by decide) ⟨by decide, K2⟩⟩
    exact main n 0 (by omega) K
theorem f_shortest12 {n : Nat} {B : Nat → Nat} {by' : Nat → Int32} (h : RN n B by') (h1 : 1 ≤ n) {post : Int32 → Prop} (K : post (nI (scF n B (n - 2) 3))) : F_X12_shortestCircle (nI n) by' post := by
  unfold F_X12_shortestCircle
  have hn := h.1
  have main : ∀ j k, (k + j = n + 1 ∨ j = 0 ∧ n < k) → 3 ≤ k → k ≤ 7 → post (nI (scF n B j k)) → F_X12_shortestCircle_2 (nI n) by' post (j + 1) (nI k) := by
    intro j
    induction j with
    | zero =>
      intro k hk hk3 hk7 K2
      unfold F_X12_shortestCircle_2
      exact br1 (nI_lt (by omega) (by omega)) K2
    | succ j ih =>
      intro k hk hk3 hk7 K2
      rw [scF] at K2
      unfold F_X12_shortestCircle_2
      refine br2 (nI_nlt (by omega) (by omega)) (f_hasCircle h h1 (by omega) (by omega) ⟨fun g => ?_, fun g => ?_⟩)
      · rw [bnz] at g
        rw [g] at K2
        rw [nI_1]
        exact ih (k + 1) (by omega) (by omega) (by omega) K2
      · have g : hcF n B k = true := by
          cases e2 : hcF n B k with
          | true => rfl
          | false => rw [e2] at g; exact absurd rfl g
        rw [g] at K2
        exact K2
  exact ⟨n - 2 + 1, main (n - 2) 3 (by omega) (by omega) (by omega) K⟩
theorem f_areUnlike {n D : Nat} {B : Nat → Nat} {by' : Nat → Int32} (h : RN n B by') (hD : D < 2 ^ n) {post : Int32 → Prop} (K : post (nI (auO n D B n 0 true).toNat)) : F_X12_areUnlike (nI D) (nI n) by' post := by
  unfold F_X12_areUnlike
  have hn := h.1
  have D64 := lt64 hn hD
  have inner : ∀ (a : Nat) (K4 : Int32 → Int32 → Prop), a < n → ∀ j b is, b + j = n → K4 (nI (auI D B a j b is).toNat) (nI (a + 1)) → F_X12_areUnlike_14 (nI D) (nI n) by' post K4 (j + 1) (nI is.toNat) (nI a) (nI b) := by
    intro a K4 ha j
    induction j with
    | zero =>
      intro b is hb K2
      have : b = n := by omega
      subst this
      unfold F_X12_areUnlike_14
      refine br1 (Int32.le_refl _) ?_
      rw [nI_1]; exact K2
    | succ j ih =>
      intro b is hb K2
      rw [auI] at K2
      have b64 : B a < 64 := RN_lt h ha
      unfold F_X12_areUnlike_14 F_X12_areUnlike_62 F_X12_areUnlike_58 F_X12_areUnlike_63
      refine br2 (nI_ge (by omega) (by omega)) ⟨fun g => ?_, fun g => ⟨v6 hn ha, ?_⟩⟩
      · rw [bnz] at g
        subst g
        rw [nI_1]
        exact ih (b + 1) false (by omega) K2
      · have g : is = true := by
          cases is with
          | true => rfl
          | false => exact absurd rfl g
        subst g
        rw [RN_at h ha]
        refine f_holds (by omega) (by omega) ⟨fun g => ?_, fun g => f_holds (by omega) (by omega) (f_holds (by omega) (by omega) ⟨fun g2 => ?_, fun g2 => ?_⟩)⟩
        · rw [bnz] at g
          rw [g] at K2
          rw [nI_1]
          exact ih (b + 1) true (by omega) K2
        · have g : (B a).testBit b = true := by
            cases e2 : (B a).testBit b with
            | true => rfl
            | false => rw [e2] at g; exact absurd rfl g
          have g2 : D.testBit a = D.testBit b := by
            revert g2
            cases D.testBit a <;> cases D.testBit b <;> simp <;> decide
          rw [g, g2] at K2
          simp only [BEq.rfl, Bool.and_true, Bool.not_true, Bool.and_false] at K2
          dsimp only
          rw [nI_1]
          exact ih (b + 1) false (by omega) K2
        · have g : (B a).testBit b = true := by
            cases e2 : (B a).testBit b with
            | true => rfl
            | false => rw [e2] at g; exact absurd rfl g
          have g2 : (D.testBit a == D.testBit b) = false := by
            revert g2
            cases D.testBit a <;> cases D.testBit b <;> simp
          rw [g, g2] at K2
          dsimp only
          rw [nI_1]
          exact ih (b + 1) true (by omega) K2
  refine ⟨n + 1, ?_⟩
  have main : ∀ j a is, a + j = n → post (nI (auO n D B j a is).toNat) → F_X12_areUnlike_4 (nI D) (nI n) by' post (j + 1) (nI is.toNat) (nI a) := by
    intro j
    induction j with
    | zero =>
      intro a is ha K2
      have : a = n := by omega
      subst this
      unfold F_X12_areUnlike_4
      exact br1 (Int32.le_refl _) ⟨bb1 _, K2⟩
    | succ j ih =>
      intro a is ha K2
      unfold F_X12_areUnlike_4
      refine br2 (nI_ge (by omega) (by omega)) ⟨n + 1, ?_⟩
      exact inner a _ (by omega) n 0 is (by omega) (ih (a + 1) _ (by omega) K2)
  exact main n 0 true (by omega) K
theorem f_degree {n : Nat} {B : Nat → Nat} {by' : Nat → Int32} (h : RN n B by') {most : Bool} {post : Int32 → Prop} (K : post (nI (if most then mxF B n 0 0 else mnF B n 0 99))) : F_X12_degree (nI n) by' (nI most.toNat) post := by
  have hn := h.1
  have main : ∀ j k a, k + j = n → a < 100 → post (nI (if most then mxF B j k a else mnF B j k a)) → F_X12_degree_13 (nI n) by' post (j + 1) (nI most.toNat) (nI a) (nI k) := by
    intro j
    induction j with
    | zero =>
      intro k a hk ha K2
      have : k = n := by omega
      subst this
      unfold F_X12_degree_13
      refine br1 (Int32.le_refl _) ?_
      rw [mxF, mnF, ite_self] at K2
      exact K2
    | succ j ih =>
      intro k a hk ha K2
      unfold F_X12_degree_13 F_X12_degree_54
      have b64 : B k < 64 := RN_lt h (by omega)
      have := popc_le (B k) 24
      refine br2 (nI_ge (by omega) (by omega)) ⟨fun g => ⟨v6 hn (by omega), ?_⟩, fun g => ⟨v6 hn (by omega), ?_⟩⟩
      · rw [bnz] at g
        subst g
        rw [RN_at h (by omega)]
        refine f_bits12 (by omega) ?_
        rw [nI_min (by omega) (by omega), nI_1]
        exact ih (k + 1) _ (by omega) (by omega) K2
      · have g : most = true := by
          cases most with
          | true => rfl
          | false => exact absurd rfl g
        subst g
        rw [RN_at h (by omega)]
        refine f_bits12 (by omega) ?_
        rw [nI_max (by omega) (by omega), nI_1]
        exact ih (k + 1) _ (by omega) (by omega) K2
  unfold F_X12_degree F_X12_degree_10
  refine ⟨fun g => ⟨n + 1, ?_⟩, fun g => ⟨n + 1, ?_⟩⟩
  · have g : most = false := by rw [bnz] at g; exact g
    subst g
    exact main n 0 99 (by omega) (by omega) K
  · have g : most = true := by
      cases most with
      | true => rfl
      | false => exact absurd rfl g
    subst g
    exact main n 0 0 (by omega) (by omega) K
theorem poI_lt {n : Nat} {B : Nat → Nat} {by' : Nat → Int32} (h : RN n B by') : ∀ j k s, k + j = n → s < 2 ^ n → poI B j k s < 2 ^ n
  | 0, k, s, _, hs => hs
  | j + 1, k, s, hk, hs => by
    rw [poI]
    refine poI_lt h j (k + 1) _ (by omega) ?_
    split
    · exact Nat.or_lt_two_pow hs (h.2 k (by omega)).2
    · exact hs
theorem f_partOf {n : Nat} {B : Nat → Nat} {by' : Nat → Int32} (h : RN n B by') {a r : Nat} (ha : a < n) (hr : poF n B 10 (2 ^ a) 0 = some r) {post : Int32 → Prop} (K : post (nI r)) : F_X12_partOf (nI n) by' (nI a) post := by
  have hn := h.1
  unfold F_X12_partOf
  refine ⟨10, ?_⟩
  have inner : ∀ (K6 : Int32 → Int32 → Prop) (x3 : Int32) j k s, k + j = n → s < 2 ^ n → K6 (nI (poI B j k s)) x3 → F_X12_partOf_16 (nI n) by' post K6 (j + 1) (nI s) x3 (nI k) := by
    intro K6 x3 j
    induction j with
    | zero =>
      intro k s hk hs K2
      have : k = n := by omega
      subst this
      unfold F_X12_partOf_16
      exact br1 (Int32.le_refl _) K2
    | succ j ih =>
      intro k s hk hs K2
      rw [poI] at K2
      have s64 := lt64 hn hs
      unfold F_X12_partOf_16 F_X12_partOf_46
      refine br2 (nI_ge (by omega) (by omega)) (f_holds (by omega) (by omega) ⟨fun g => ?_, fun g => ⟨v6 hn (by omega), ?_⟩⟩)
      · rw [bnz] at g
        rw [g] at K2
        rw [nI_1, Int32.or_zero]
        exact ih (k + 1) s (by omega) hs K2
      · have g : s.testBit k = true := by
          cases e2 : s.testBit k with
          | true => rfl
          | false => rw [e2] at g; exact absurd rfl g
        rw [g] at K2
        rw [nI_1, RN_at h (by omega), ni_or]
        exact ih (k + 1) _ (by omega) (Nat.or_lt_two_pow hs (h.2 k (by omega)).2) K2
  have main : ∀ f s was, s < 2 ^ n → was < 2 ^ n → poF n B f s was = some r → F_X12_partOf_6 (nI n) by' post f (nI s) (nI was) := by
    intro f
    induction f with
    | zero => intro s was _ _ e; simp [poF] at e
    | succ f ih =>
      intro s was hs hw e
      rw [poF] at e
      have s64 := lt64 hn hs
      have w64 := lt64 hn hw
      unfold F_X12_partOf_6
      refine ⟨fun g => ?_, fun g => ⟨n + 1, ?_⟩⟩
      · rw [if_pos (ni_inj (by omega) (by omega) g)] at e
        simp at e
        subst e
        exact K
      · rw [if_neg (fun e2 => g (by rw [e2]))] at e
        exact inner _ _ n 0 s (by omega) hs (ih _ _ (poI_lt h n 0 s (by omega) hs) hs e)
  rw [ni_1shl (by omega)]
  exact main 10 (2 ^ a) 0 (Nat.pow_lt_pow_right (by decide) ha) (Nat.pow_pos (by decide)) hr
theorem f_partsNow {n : Nat} {B : Nat → Nat} {by' : Nat → Int32} (h : RN n B by') {r : Nat} (hr : pnF n B n 0 0 = some r) {post : Int32 → Prop} (K : post (nI r)) : F_X12_partsNow (nI n) by' post := by
  have hn := h.1
  unfold F_X12_partsNow
  refine ⟨n + 1, ?_⟩
  have main : ∀ j a x, a + j = n → pnF n B j a x = some r → F_X12_partsNow_4 (nI n) by' post (j + 1) (nI x) (nI a) := by
    intro j
    induction j with
    | zero =>
      intro a x ha e
      have : a = n := by omega
      subst this
      simp [pnF] at e
      subst e
      unfold F_X12_partsNow_4
      exact br1 (Int32.le_refl _) K
    | succ j ih =>
      intro a x ha e
      rw [pnF] at e
      split at e
      · simp at e
      · rename_i s hs
        unfold F_X12_partsNow_4 F_X12_partsNow_32
        refine br2 (nI_ge (by omega) (by omega)) (f_partOf h (by omega) hs ?_)
        have e1 : ((1 : Int32) <<< (nI a &&& 31)) - 1 = nI (2 ^ a - 1) := by
          rw [ni_1shl (by omega)]
          show _ - nI 1 = _
          rw [ni_sub (Nat.pow_pos (by decide))]
        have pa : 2 ^ a ≤ 2 ^ 6 := Nat.pow_le_pow_right (by decide) (by omega)
        have l1 : s &&& (2 ^ a - 1) < 2 ^ 31 := Nat.lt_of_le_of_lt Nat.and_le_right (by omega)
        rw [e1, ni_and]
        refine ⟨fun g => ?_, fun g => ?_⟩
        · rw [if_neg (fun e2 => g (by rw [e2]; rfl))] at e
          rw [nI_1]
          show F_X12_partsNow_4 (nI n) by' post (j + 1) (nI x + nI 0) (nI (a + 1))
          rw [nI_add]
          exact ih (a + 1) _ (by omega) e
        · rw [if_pos (ni_inj (b := 0) l1 (by decide) g)] at e
          rw [nI_1, nI_1]
          exact ih (a + 1) _ (by omega) e
  exact main n 0 0 (by omega) hr
theorem enF_le {n : Nat} {B : Nat → Nat} : ∀ j k x, enF B j k x ≤ x + 24 * j
  | 0, k, x => by simp [enF]
  | j + 1, k, x => by
    rw [enF]
    have := enF_le (n := n) (B := B) j (k + 1) (x + popc (B k) 24)
    have := popc_le (B k) 24
    omega
theorem f_edgesNow {n : Nat} {B : Nat → Nat} {by' : Nat → Int32} (h : RN n B by') {post : Int32 → Prop} (K : post (nI (enF B n 0 0 / 2))) : F_X12_edgesNow (nI n) by' post := by
  have hn := h.1
  unfold F_X12_edgesNow
  refine ⟨n + 1, ?_⟩
  have main : ∀ j k x, k + j = n → x ≤ 24 * k → post (nI (enF B j k x / 2)) → F_X12_edgesNow_4 (nI n) by' post (j + 1) (nI x) (nI k) := by
    intro j
    induction j with
    | zero =>
      intro k x hk hx K2
      have : k = n := by omega
      subst this
      unfold F_X12_edgesNow_4
      refine br1 (Int32.le_refl _) ?_
      show post (nI x / nI 2)
      rw [ni_div (by omega) (by decide) (by decide)]
      exact K2
    | succ j ih =>
      intro k x hk hx K2
      rw [enF] at K2
      unfold F_X12_edgesNow_4
      have b64 : B k < 64 := RN_lt h (by omega)
      have := popc_le (B k) 24
      refine br2 (nI_ge (by omega) (by omega)) ⟨v6 hn (by omega), ?_⟩
      rw [RN_at h (by omega)]
      refine f_bits12 (by omega) ?_
      rw [nI_add, nI_1]
      exact ih (k + 1) _ (by omega) (by omega) K2
  exact main n 0 0 (by omega) (by omega) K
theorem stepF_lt' {n : Nat} {B : Nat → Nat} {by' : Nat → Int32} (h : RN n B by') {s : Nat} (hs : s < 2 ^ n) : ∀ k, k ≤ n → stepF B s k < 2 ^ n := stepF_lt (near := by') h hs
theorem f_widest {n : Nat} {B : Nat → Nat} {by' : Nat → Int32} (h : RN n B by') {r : Option Nat} (hr : wtF n B n 0 0 = some r) {post : Int32 → Prop} (K : post (oI r)) : F_X12_widest (nI n) by' post := by
  have hn := h.1
  unfold F_X12_widest
  refine ⟨n + 1, ?_⟩
  have e1 : ((1 : Int32) <<< (nI n &&& 31)) - 1 = nI (2 ^ n - 1) := by
    rw [ni_1shl (by omega)]
    show _ - nI 1 = _
    rw [ni_sub (Nat.pow_pos (by decide))]
  have p64 := lt64 hn (show 2 ^ n - 1 < 2 ^ n by have := Nat.pow_pos (n := n) (show 0 < 2 by decide); omega)
  have inner : ∀ (K19 : Int32 → Int32 → Int32 → Int32 → Prop) (x1 x2 x4 : Int32) s, s < 2 ^ n → (¬ nI (stepF B s n) = nI s → K19 x1 x2 (nI (stepF B s n)) (x4 + 1)) → (nI (stepF B s n) = nI s → post (-1)) → ∀ j k, k + j = n → F_X12_widest_37 (nI n) by' post K19 (j + 1) x1 x2 (nI s) x4 (nI (stepF B s k)) (nI k) := by
    intro K19 x1 x2 x4 s hs k1 k2 j
    have s64 := lt64 hn hs
    induction j with
    | zero =>
      intro k hk
      have : k = n := by omega
      subst this
      unfold F_X12_widest_37
      exact br1 (Int32.le_refl _) ⟨k1, k2⟩
    | succ j ih =>
      intro k hk
      have ih := ih (k + 1) (by omega)
      rw [stepF] at ih
      unfold F_X12_widest_37 F_X12_widest_68
      refine br2 (nI_ge (by omega) (by omega)) (f_holds (by omega) (by omega) ⟨fun g => ?_, fun g => ⟨v6 hn (by omega), ?_⟩⟩)
      · rw [bnz] at g
        rw [g] at ih
        rw [nI_1, Int32.or_zero]
        exact ih
      · have g : s.testBit k = true := by
          cases e2 : s.testBit k with
          | true => rfl
          | false => rw [e2] at g; exact absurd rfl g
        rw [g] at ih
        rw [nI_1, RN_at h (by omega), ni_or]
        exact ih
  have mid : ∀ (K4 : Int32 → Int32 → Prop) (x1 : Nat) (x2 : Int32) f s far, x1 < 200 → far + f < 200 → s < 2 ^ n → (∀ v, wiF n B f s far = some (some v) → K4 (nI (max x1 v)) (x2 + 1)) → (wiF n B f s far = some none → post (-1)) → wiF n B f s far ≠ none → F_X12_widest_19 (nI n) by' post K4 f (nI x1) x2 (nI s) (nI far) := by
    intro K4 x1 x2 f
    induction f with
    | zero => intro s far _ _ _ _ _ e; exact absurd rfl e
    | succ f ih =>
      intro s far hx hf hs k1 k2 k3
      have s64 := lt64 hn hs
      have hst := stepF_lt' h hs n (Nat.le_refl _)
      have st64 := lt64 hn hst
      rw [wiF] at k1 k2 k3
      unfold F_X12_widest_19
      rw [e1]
      refine ⟨fun g => ?_, fun g => ⟨n + 1, ?_⟩⟩
      · have g := ni_inj (by omega) (by omega) g
        rw [if_pos g] at k1
        rw [nI_max (by omega) (by omega)]
        exact k1 far rfl
      · have g : ¬ s = 2 ^ n - 1 := fun e => g (by rw [e])
        rw [if_neg g] at k1 k2 k3
        refine inner _ _ _ _ s hs (fun g2 => ?_) (fun g2 => ?_) n 0 (by omega)
        · rw [if_neg (fun e => g2 (by rw [e]))] at k1 k2 k3
          rw [nI_1]
          exact ih _ (far + 1) hx (by omega) hst k1 k2 k3
        · rw [if_pos (ni_inj (by omega) (by omega) g2)] at k2
          exact k2 rfl
  have main : ∀ j a most, a + j = n → most < 200 → wtF n B j a most = some r → F_X12_widest_4 (nI n) by' post (j + 1) (nI most) (nI a) := by
    intro j
    induction j with
    | zero =>
      intro a most ha hm e
      have : a = n := by omega
      subst this
      simp [wtF] at e
      subst e
      unfold F_X12_widest_4
      exact br1 (Int32.le_refl _) K
    | succ j ih =>
      intro a most ha hm e
      rw [wtF] at e
      unfold F_X12_widest_4
      refine br2 (nI_ge (by omega) (by omega)) ⟨10, ?_⟩
      rw [ni_1shl (by omega)]
      have wb : ∀ f s far v, wiF n B f s far = some (some v) → v ≤ far + f := by
        intro f
        induction f with
        | zero => intro s far v e; simp [wiF] at e
        | succ f ih =>
          intro s far v e
          rw [wiF] at e
          split at e
          · simp at e; omega
          · split at e
            · simp at e
            · have := ih _ _ _ e; omega
      refine mid _ most _ 10 (2 ^ a) 0 (by omega) (by omega) (Nat.pow_lt_pow_right (by decide) (by omega)) (fun v hv => ?_) (fun hv => ?_) (fun hv => ?_)
      · rw [hv] at e
        have := wb _ _ _ _ hv
        rw [nI_1]
        exact ih (a + 1) _ (by omega) (by omega) e
      · rw [hv] at e
        simp at e
        subst e
        exact K
      · rw [hv] at e
        simp at e
  exact main n 0 0 (by omega) (by omega) hr
