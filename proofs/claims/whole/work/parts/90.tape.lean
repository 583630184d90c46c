/-! the text that is read, thing by thing -/
def runF (P : Nat → Bool) : Nat → Nat → Nat
  | 0, p => p
  | j + 1, p => if P p then runF P j (p + 1) else p
theorem runF_ge (P : Nat → Bool) : ∀ j p, p ≤ runF P j p
  | 0, p => Nat.le_refl _
  | j + 1, p => by
    have := runF_ge P j (p + 1)
    rw [runF]
    split <;> omega
theorem runF_le (P : Nat → Bool) : ∀ j p, runF P j p ≤ p + j
  | 0, p => Nat.le_refl _
  | j + 1, p => by
    have := runF_le P j (p + 1)
    rw [runF]
    split <;> omega
theorem runF_stay {P : Nat → Bool} {p : Nat} (h : P p = false) : ∀ j, runF P j p = p
  | 0 => rfl
  | j + 1 => by rw [runF, if_neg (by rw [h]; decide)]
theorem runF_end {P : Nat → Bool} : ∀ j p, P (p + j) = false → P (runF P j p) = false
  | 0, p, h => h
  | j + 1, p, h => by
    rw [runF]
    split
    · exact runF_end j (p + 1) (by rw [show p + 1 + j = p + (j + 1) by omega]; exact h)
    · rename_i g
      cases e : P p with
      | false => rfl
      | true => exact absurd e g
theorem runF_in {P : Nat → Bool} : ∀ j p i, p ≤ i → i < runF P j p → P i = true
  | 0, p, i, h1, h2 => by rw [runF] at h2; omega
  | j + 1, p, i, h1, h2 => by
    rw [runF] at h2
    split at h2
    · rename_i g
      by_cases e : i = p
      · subst e; exact g
      · exact runF_in j (p + 1) i (by omega) h2
    · omega
def inC (Bt : Nat → Nat) (N lo hi x : Nat) : Bool := decide (x < N) && (decide (lo ≤ Bt x) && decide (Bt x ≤ hi))
theorem inC_N (Bt : Nat → Nat) (N lo hi : Nat) : inC Bt N lo hi N = false := by
  unfold inC
  rw [decide_eq_false (by omega), Bool.false_and]
def skB (Bt : Nat → Nat) (N p : Nat) : Nat := runF (inC Bt N 32 32) (N - p) p
def ltE (Bt : Nat → Nat) (N q : Nat) : Nat := runF (inC Bt N 97 122) (N - q) q
def dgE (Bt : Nat → Nat) (N q : Nat) : Nat := runF (inC Bt N 48 57) (N - q) q
theorem sk_ge {Bt : Nat → Nat} {N p : Nat} : p ≤ skB Bt N p := runF_ge _ _ _
theorem sk_le {Bt : Nat → Nat} {N p : Nat} (h : p ≤ N) : skB Bt N p ≤ N := by
  have := runF_le (inC Bt N 32 32) (N - p) p
  unfold skB
  omega
theorem sk_idem {Bt : Nat → Nat} {N p : Nat} (h : p ≤ N) : skB Bt N (skB Bt N p) = skB Bt N p := by
  have e : inC Bt N 32 32 (skB Bt N p) = false := runF_end _ _ (by rw [show p + (N - p) = N by omega]; exact inC_N _ _ _ _)
  exact runF_stay e _
theorem lt_le {Bt : Nat → Nat} {N q : Nat} (h : q ≤ N) : q ≤ ltE Bt N q ∧ ltE Bt N q ≤ N := by
  have := runF_le (inC Bt N 97 122) (N - q) q
  exact ⟨runF_ge _ _ _, by unfold ltE; omega⟩
theorem dg_le {Bt : Nat → Nat} {N q : Nat} (h : q ≤ N) : q ≤ dgE Bt N q ∧ dgE Bt N q ≤ N := by
  have := runF_le (inC Bt N 48 57) (N - q) q
  exact ⟨runF_ge _ _ _, by unfold dgE; omega⟩
def TpX (Bt : Nat → Nat) (N : Nat) (xb : Nat → Int32) : Prop := N ≤ 400 ∧ ∀ j, j < N → xb j = nI (Bt j) ∧ Bt j < 256
def TpM (Bt : Nat → Nat) (N : Nat) (tape : Nat → Int32) : Prop := N ≤ 400 ∧ ∀ j, j < N → tape j = sgn (Bt j) ∧ Bt j < 256
/-! the class's looks -/
theorem x_at {Bt : Nat → Nat} {N : Nat} {xb : Nat → Int32} (hX : TpX Bt N xb) {i : Nat} (hi : i < 2 ^ 31) {post : Int32 → Prop} (K1 : i < N → post (nI (Bt i))) (K0 : N ≤ i → post (-1)) : F_X8_at (nI N) xb (nI i) post := by
  obtain ⟨h4, hb⟩ := hX
  unfold F_X8_at F_X8_at_30 F_X8_at_31
  refine br2 (nI_pos hi) ?_
  by_cases c : i < N
  · refine br2 (nI_ge c (by omega)) (br2 (nI_ge (b := 400) (by omega) (by decide)) ⟨vp_in_nI (by omega) (by decide), ?_⟩)
    rw [nI_clamp hi, (hb i c).1]
    exact K1 c
  · exact br1 (nI_le (by omega) hi) (K0 (by omega))
theorem x_skip {Bt : Nat → Nat} {N : Nat} {xb : Nat → Int32} (hX : TpX Bt N xb) {p : Nat} (hp : p ≤ N) {bg : Int32} {post : Int32 → Int32 → Prop} (K : post (nI (skB Bt N p)) (nI (skB Bt N p))) : F_X8_skipBlanks (nI N) xb bg (nI p) post := by
  have h4 := hX.1
  unfold F_X8_skipBlanks
  refine ⟨N - p + 1, ?_⟩
  have main : ∀ j p, p + j = N → post (nI (runF (inC Bt N 32 32) j p)) (nI (runF (inC Bt N 32 32) j p)) → F_X8_skipBlanks_0 (nI N) xb post (j + 1) bg (nI p) := by
    intro j
    induction j with
    | zero =>
      intro p hp K
      unfold F_X8_skipBlanks_0 F_X8_skipBlanks_37
      exact br1 (nI_le (by omega) (by omega)) K
    | succ j ih =>
      intro p hp K
      have hb := (hX.2 p (by omega)).2
      rw [runF] at K
      unfold F_X8_skipBlanks_0 F_X8_skipBlanks_37
      refine br2 (nI_ge (by omega) (by omega)) (x_at hX (by omega) (fun _ => ?_) (fun h => by omega))
      by_cases c : Bt p = 32
      · have : inC Bt N 32 32 p = true := by unfold inC; rw [c, decide_eq_true (show p < N by omega)]; rfl
        rw [if_pos this] at K
        refine br4 (by rw [c]; rfl) ?_
        rw [nI_1]
        exact ih (p + 1) (by omega) K
      · have : inC Bt N 32 32 p = false := by
          unfold inC
          rw [← Bool.decide_and, decide_eq_false (show ¬ (32 ≤ Bt p ∧ Bt p ≤ 32) by omega), Bool.and_false]
        rw [if_neg (by rw [this]; decide)] at K
        exact br3 (fun g => c (ni_inj (b := 32) (by omega) (by decide) g)) K
  exact main (N - p) p (by omega) K
theorem x_goesOn {Bt : Nat → Nat} {N : Nat} {xb : Nat → Int32} (hX : TpX Bt N xb) {p : Nat} (hp : p ≤ N) {bg : Int32} {post : Int32 → Int32 → Int32 → Prop} (K1 : skB Bt N p < N → post 1 (nI (skB Bt N p)) (nI (skB Bt N p))) (K0 : skB Bt N p = N → post 0 (nI (skB Bt N p)) (nI (skB Bt N p))) : F_X8_goesOn (nI N) xb bg (nI p) post := by
  have h4 := hX.1
  have hs := sk_le (Bt := Bt) hp
  unfold F_X8_goesOn F_X8_goesOn_20
  refine x_skip hX hp ?_
  by_cases c : skB Bt N p < N
  · exact br2 (nI_ge c (by omega)) ⟨by decide, K1 c⟩
  · exact br1 (nI_le (by omega) (by omega)) ⟨by decide, K0 (by omega)⟩
theorem x_isDigit {Bt : Nat → Nat} {N : Nat} {xb : Nat → Int32} (hX : TpX Bt N xb) {i : Nat} (hi : i < 2 ^ 31) {post : Int32 → Prop} (K : post (nI (inC Bt N 48 57 i).toNat)) : F_X8_isDigit (nI N) xb (nI i) post := by
  unfold F_X8_isDigit F_X8_isDigit_24 F_X8_isDigit_25
  unfold inC at K
  refine x_at hX hi (fun h => ?_) (fun h => ?_)
  · have hb := (hX.2 i h).2
    rw [decide_eq_true h, Bool.true_and] at K
    by_cases c1 : 48 ≤ Bt i
    · rw [decide_eq_true c1, Bool.true_and] at K
      refine br2 (nI_nlt (b := 48) c1 (by omega)) (x_at hX hi (fun _ => ?_) (fun g => by omega))
      by_cases c2 : Bt i ≤ 57
      · rw [decide_eq_true c2] at K
        exact br2 (nI_nlt (a := 57) c2 (by decide)) ⟨by decide, K⟩
      · rw [decide_eq_false c2] at K
        exact br1 (nI_lt (a := 57) (by omega) (by omega)) ⟨by decide, K⟩
    · rw [decide_eq_false c1, Bool.false_and] at K
      exact br1 (nI_lt (b := 48) (by omega) (by decide)) ⟨by decide, K⟩
  · rw [decide_eq_false (by omega), Bool.false_and] at K
    exact br1 (by decide) ⟨by decide, K⟩
theorem x_isLetter {Bt : Nat → Nat} {N : Nat} {xb : Nat → Int32} (hX : TpX Bt N xb) {i : Nat} (hi : i < 2 ^ 31) {post : Int32 → Prop} (K : post (nI (inC Bt N 97 122 i).toNat)) : F_X8_isLetter (nI N) xb (nI i) post := by
  unfold F_X8_isLetter F_X8_isLetter_24 F_X8_isLetter_25
  unfold inC at K
  refine x_at hX hi (fun h => ?_) (fun h => ?_)
  · have hb := (hX.2 i h).2
    rw [decide_eq_true h, Bool.true_and] at K
    by_cases c1 : 97 ≤ Bt i
    · rw [decide_eq_true c1, Bool.true_and] at K
      refine br2 (nI_nlt (b := 97) c1 (by omega)) (x_at hX hi (fun _ => ?_) (fun g => by omega))
      by_cases c2 : Bt i ≤ 122
      · rw [decide_eq_true c2] at K
        exact br2 (nI_nlt (a := 122) c2 (by decide)) ⟨by decide, K⟩
      · rw [decide_eq_false c2] at K
        exact br1 (nI_lt (a := 122) (by omega) (by omega)) ⟨by decide, K⟩
    · rw [decide_eq_false c1, Bool.false_and] at K
      exact br1 (nI_lt (b := 97) (by omega) (by decide)) ⟨by decide, K⟩
  · rw [decide_eq_false (by omega), Bool.false_and] at K
    exact br1 (by decide) ⟨by decide, K⟩
theorem x_digitComes {Bt : Nat → Nat} {N : Nat} {xb : Nat → Int32} (hX : TpX Bt N xb) {p : Nat} (hp : p ≤ N) {bg : Int32} {post : Int32 → Int32 → Int32 → Prop} (K : post (nI (inC Bt N 48 57 (skB Bt N p)).toNat) (nI (skB Bt N p)) (nI (skB Bt N p))) : F_X8_digitComes (nI N) xb bg (nI p) post := by
  have h4 := hX.1
  have hs := sk_le (Bt := Bt) hp
  unfold F_X8_digitComes
  exact x_skip hX hp (x_isDigit hX (by omega) ⟨bb1 _, K⟩)
def sgA (Bt : Nat → Nat) (N c p : Nat) : Bool := inC Bt N c c (skB Bt N p)
theorem x_takesSign {Bt : Nat → Nat} {N : Nat} {xb : Nat → Int32} (hX : TpX Bt N xb) {p c : Nat} (hp : p ≤ N) (hc : c < 128) {bg : Int32} {post : Int32 → Int32 → Int32 → Prop} (K1 : sgA Bt N c p = true → post 1 (nI (skB Bt N p)) (nI (skB Bt N p + 1))) (K0 : sgA Bt N c p = false → post 0 (nI (skB Bt N p)) (nI (skB Bt N p))) : F_X8_takesSign (nI N) xb bg (nI p) (nI c) post := by
  have h4 := hX.1
  have hs := sk_le (Bt := Bt) hp
  unfold F_X8_takesSign
  refine x_skip hX hp (x_at hX (by omega) (fun h => ?_) (fun h => ?_))
  · have hb := (hX.2 _ h).2
    rw [nI_1]
    by_cases g : Bt (skB Bt N p) = c
    · refine br1 (by rw [g]) (K1 ?_)
      unfold sgA inC
      rw [g, decide_eq_true h, decide_eq_true (Nat.le_refl c)]
      rfl
    · refine br2 (fun q => g (ni_inj (by omega) (by omega) q)) ⟨by decide, K0 ?_⟩
      unfold sgA inC
      rw [← Bool.decide_and, decide_eq_false (show ¬ (c ≤ Bt (skB Bt N p) ∧ Bt (skB Bt N p) ≤ c) by omega), Bool.and_false]
  · refine br2 (fun q => (nm1 (m := c) (by omega) q.symm).elim) ⟨by decide, K0 ?_⟩
    unfold sgA inC
    rw [decide_eq_false (by omega), Bool.false_and]
theorem sgA_lt {Bt : Nat → Nat} {N c p : Nat} (h : sgA Bt N c p = true) : skB Bt N p < N := by
  unfold sgA inC at h
  rw [Bool.and_eq_true, decide_eq_true_iff] at h
  exact h.1
def isW (Bt : Nat → Nat) (N s p : Nat) : Bool := (ltE Bt N (skB Bt N p) - skB Bt N p == eLen s) && (List.range (eLen s)).all (fun j => Bt (skB Bt N p + j) == (eBytes.getD s []).getD j 0)
theorem eB_lt : ∀ s, s < 58 → ∀ j, j < eLen s → (eBytes.getD s []).getD j 0 < 128 := by decide +kernel
theorem x_takesWord {Bt : Nat → Nat} {N : Nat} {xb : Nat → Int32} (hX : TpX Bt N xb) {p s : Nat} (hp : p ≤ N) (hs : s < 58) {bg : Int32} {post : Int32 → Int32 → Int32 → Prop} (K1 : isW Bt N s p = true → post 1 (nI (skB Bt N p)) (nI (ltE Bt N (skB Bt N p)))) (K0 : isW Bt N s p = false → post 0 (nI (skB Bt N p)) (nI (skB Bt N p))) : F_X8_takesWord (nI N) xb bg (nI p) s post := by
  have h4 := hX.1
  have hq := sk_le (Bt := Bt) hp
  obtain ⟨hl1, hl2⟩ := lt_le (Bt := Bt) hq
  have hel := eLen_100 s hs
  unfold F_X8_takesWord
  refine x_skip hX hp ⟨N - skB Bt N p + 1, ?_⟩
  unfold isW at K1 K0
  have fin : F_X8_takesWord_31 (nI N) xb post s (nI (ltE Bt N (skB Bt N p))) (nI (skB Bt N p)) (nI (skB Bt N p)) := by
    unfold F_X8_takesWord_31
    refine ⟨hs, ?_⟩
    rw [ni_sub hl1]
    generalize skB Bt N p = q at *
    generalize ltE Bt N q = e at *
    by_cases c : e - q = eLen s
    · rw [beq_iff_eq.mpr c, Bool.true_and] at K1 K0
      refine br1 (by rw [c]) ⟨eLen s + 1, ?_⟩
      have loop : ∀ j i, i + j = eLen s → (∀ x, x < i → Bt (q + x) = (eBytes.getD s []).getD x 0) → F_X8_takesWord_48 (nI N) xb post (j + 1) s (nI e) (nI i) (nI q) (nI q) := by
        intro j
        induction j with
        | zero =>
          intro i hi hall
          unfold F_X8_takesWord_48
          refine ⟨hs, br1 (nI_le (by omega) (by omega)) (K1 ?_)⟩
          rw [List.all_eq_true]
          intro x hx
          exact beq_iff_eq.mpr (hall x (by have := List.mem_range.mp hx; omega))
        | succ j ih =>
          intro i hi hall
          unfold F_X8_takesWord_48
          refine ⟨hs, br2 (nI_ge (by omega) (by omega)) ?_⟩
          rw [nI_add]
          refine x_at hX (by omega) (fun h => ⟨hs, vp_in_nI (by omega) (by omega), ?_⟩) (fun h => by omega)
          have hb := (hX.2 _ h).2
          have hw := eB_lt s hs i (by omega)
          rw [(eCh_at s hs i (by omega)).1, nI_1]
          by_cases g : Bt (q + i) = (eBytes.getD s []).getD i 0
          · refine br1 (by rw [g]) (ih (i + 1) (by omega) (fun x hx => ?_))
            by_cases e : x = i
            · subst e; exact g
            · exact hall x (by omega)
          · refine br2 (fun r => g (ni_inj (by omega) (by omega) r)) ⟨by decide, K0 ?_⟩
            cases e : (List.range (eLen s)).all (fun j => Bt (q + j) == (eBytes.getD s []).getD j 0) with
            | false => rfl
            | true => exact absurd (beq_iff_eq.mp (List.all_eq_true.mp e i (List.mem_range.mpr (by omega)))) g
      exact loop (eLen s) 0 (by omega) (fun x hx => absurd hx (Nat.not_lt_zero _))
    · rw [beq_eq_false_iff_ne.mpr c, Bool.false_and] at K0
      exact br2 (fun r => c (ni_inj (by omega) (by omega) r)) ⟨by decide, K0 rfl⟩
  have main : ∀ j b, b + j = N → runF (inC Bt N 97 122) j b = ltE Bt N (skB Bt N p) → F_X8_takesWord_9 (nI N) xb post (j + 1) s (nI b) (nI (skB Bt N p)) (nI (skB Bt N p)) := by
    intro j
    induction j with
    | zero =>
      intro b hb he
      unfold F_X8_takesWord_9
      rw [runF] at he
      refine br1 (nI_le (by omega) (by omega)) ?_
      rw [he]
      exact fin
    | succ j ih =>
      intro b hb he
      rw [runF] at he
      unfold F_X8_takesWord_9
      refine br2 (nI_ge (by omega) (by omega)) (x_isLetter hX (by omega) ?_)
      rw [nI_1]
      cases e : inC Bt N 97 122 b with
      | false =>
        rw [e, if_neg (by decide)] at he
        refine br1 rfl ?_
        rw [he]
        exact fin
      | true =>
        rw [e, if_pos rfl] at he
        exact br2 (by decide) (ih (b + 1) (by omega) he)
  exact main _ _ (by omega) rfl
/-- the number that stands at a place, if it has one or two figures -/
def gN (Bt : Nat → Nat) (N p : Nat) : Option Nat := if dgE Bt N (skB Bt N p) - skB Bt N p = 1 then some (Bt (skB Bt N p) - 48) else if dgE Bt N (skB Bt N p) - skB Bt N p = 2 then some (10 * (Bt (skB Bt N p) - 48) + (Bt (skB Bt N p + 1) - 48)) else none
def pNum (Bt : Nat → Nat) (N lo hi p : Nat) : Option Nat := match gN Bt N p with
  | none => none
  | some v => if lo ≤ v ∧ v ≤ hi then some v else none
theorem pNum_some {Bt : Nat → Nat} {N lo hi p v : Nat} (h : pNum Bt N lo hi p = some v) : lo ≤ v ∧ v ≤ hi := by
  unfold pNum at h
  split at h
  · simp at h
  · split at h
    · rename_i g
      rw [← Option.some.inj h]
      exact g
    · simp at h
theorem dg_steps {Bt : Nat → Nat} {N q : Nat} : (inC Bt N 48 57 q = false → dgE Bt N q = q) ∧ (inC Bt N 48 57 q = true → inC Bt N 48 57 (q + 1) = false → dgE Bt N q = q + 1) ∧ (inC Bt N 48 57 q = true → inC Bt N 48 57 (q + 1) = true → inC Bt N 48 57 (q + 2) = false → dgE Bt N q = q + 2) ∧ (inC Bt N 48 57 q = true → inC Bt N 48 57 (q + 1) = true → inC Bt N 48 57 (q + 2) = true → q + 3 ≤ dgE Bt N q) := by
  have lt : ∀ x, inC Bt N 48 57 x = true → x < N := fun x h => by
    unfold inC at h
    rw [Bool.and_eq_true, decide_eq_true_iff] at h
    exact h.1
  unfold dgE
  refine ⟨fun h => runF_stay h _, fun h1 h2 => ?_, fun h1 h2 h3 => ?_, fun h1 h2 h3 => ?_⟩
  · have := lt _ h1
    rw [show N - q = (N - q - 1) + 1 by omega, runF, if_pos h1, runF_stay h2]
  · have := lt _ h2
    rw [show N - q = (N - q - 2) + 1 + 1 by omega, runF, if_pos h1, runF, if_pos h2, runF_stay h3]
  · have := lt _ h3
    rw [show N - q = (N - q - 3) + 1 + 1 + 1 by omega, runF, if_pos h1, runF, if_pos h2, runF, if_pos h3]
    exact runF_ge _ _ _
theorem inC_dig {Bt : Nat → Nat} {N x : Nat} (h : inC Bt N 48 57 x = true) : x < N ∧ 48 ≤ Bt x ∧ Bt x ≤ 57 := by
  unfold inC at h
  rw [Bool.and_eq_true, Bool.and_eq_true, decide_eq_true_iff, decide_eq_true_iff, decide_eq_true_iff] at h
  exact h
theorem x_takeNumber {Bt : Nat → Nat} {N : Nat} {xb : Nat → Int32} (hX : TpX Bt N xb) {p lo hi : Nat} (hp : p ≤ N) (hlo : lo < 100) (hhi : hi < 100) {bg : Int32} {post : Int32 → Int32 → Int32 → Prop} (K1 : ∀ v, pNum Bt N lo hi p = some v → post (nI v) (nI (skB Bt N p)) (nI (dgE Bt N (skB Bt N p)))) (K0 : pNum Bt N lo hi p = none → ∀ pos, post (-1) (nI (skB Bt N p)) pos) : F_X8_takeNumber (nI N) xb bg (nI p) (nI lo) (nI hi) post := by
  have h4 := hX.1
  have hq := sk_le (Bt := Bt) hp
  unfold F_X8_takeNumber
  refine x_skip hX hp ⟨4, ?_⟩
  unfold pNum gN at K1 K0
  generalize skB Bt N p = q at *
  obtain ⟨s0, s1, s2, s3⟩ := dg_steps (Bt := Bt) (N := N) (q := q)
  have fin : ∀ d v, q + d ≤ N → v < 1000 → (d = 0 ∨ 3 ≤ d → ∀ pos, post (-1) (nI q) pos) → ((d = 1 ∨ d = 2) → (lo ≤ v ∧ v ≤ hi → post (nI v) (nI q) (nI (q + d))) ∧ (¬ (lo ≤ v ∧ v ≤ hi) → ∀ pos, post (-1) (nI q) pos)) → F_X8_takeNumber_60 (nI N) xb post (nI lo) (nI hi) (nI (q + d)) (nI v) (nI q) (nI q) := by
    intro d v hd hv k0 k1
    unfold F_X8_takeNumber_60 F_X8_takeNumber_92
    rw [ni_sub (by omega), show q + d - q = d by omega]
    by_cases c0 : d = 0
    · exact br1 (nI_lt (b := 1) (by omega) (by decide)) (k0 (Or.inl c0) _)
    · refine br2 (nI_nlt (b := 1) (by omega) (by omega)) ?_
      by_cases c3 : 2 < d
      · exact br1 (nI_lt (a := 2) c3 (by omega)) (k0 (Or.inr (by omega)) _)
      · obtain ⟨y, n⟩ := k1 (by omega)
        refine br2 (nI_nlt (a := 2) (by omega) (by decide)) ?_
        by_cases c1 : lo ≤ v
        · refine br2 (nI_nlt c1 (by omega)) ?_
          by_cases c2 : v ≤ hi
          · exact br1 (nI_le c2 (by omega)) (y ⟨c1, c2⟩)
          · exact br2 (nI_ge (by omega) (by omega)) (n (fun g => c2 g.2) _)
        · exact br1 (nI_lt (by omega) (by omega)) (n (fun g => c1 g.1) _)
  have stopAt : ∀ d v f, q + d ≤ N → d ≤ 3 → F_X8_takeNumber_60 (nI N) xb post (nI lo) (nI hi) (nI (q + d)) (nI v) (nI q) (nI q) → inC Bt N 48 57 (q + d) = false → F_X8_takeNumber_12 (nI N) xb post (f + 1) (nI lo) (nI hi) (nI (q + d)) (nI v) (nI q) (nI q) := by
    intro d v f hd h3 k hn
    unfold F_X8_takeNumber_12
    by_cases c : N ≤ q + d
    · exact br1 (nI_le c (by omega)) k
    · refine br2 (nI_ge (by omega) (by omega)) ?_
      rw [show nI q + 3 = nI (q + 3) from nI_add q 3]
      by_cases c3 : q + 3 ≤ q + d
      · exact br1 (nI_le c3 (by omega)) k
      · refine br2 (nI_ge (by omega) (by omega)) (x_isDigit hX (by omega) ?_)
        rw [hn]
        exact br1 rfl k
  have goAt : ∀ d v f, d < 3 → v < 100 → inC Bt N 48 57 (q + d) = true → F_X8_takeNumber_12 (nI N) xb post f (nI lo) (nI hi) (nI (q + (d + 1))) (nI (v * 10 + (Bt (q + d) - 48))) (nI q) (nI q) → F_X8_takeNumber_12 (nI N) xb post (f + 1) (nI lo) (nI hi) (nI (q + d)) (nI v) (nI q) (nI q) := by
    intro d v f h3 hv hn k
    obtain ⟨g1, g2, g3⟩ := inC_dig hn
    unfold F_X8_takeNumber_12
    refine br2 (nI_ge g1 (by omega)) ?_
    rw [show nI q + 3 = nI (q + 3) from nI_add q 3]
    refine br2 (nI_ge (by omega) (by omega)) (x_isDigit hX (by omega) ?_)
    rw [hn]
    refine br2 (by decide) (x_at hX (by omega) (fun _ => ?_) (fun h => by omega))
    rw [show nI v * 10 = nI (v * 10) from ni_mul v 10, nI_add, show nI (v * 10 + Bt (q + d)) - 48 = nI (v * 10 + Bt (q + d) - 48) from ni_sub (b := 48) (by omega), nI_1, show v * 10 + Bt (q + d) - 48 = v * 10 + (Bt (q + d) - 48) by omega]
    exact k
  show F_X8_takeNumber_12 (nI N) xb post 4 (nI lo) (nI hi) (nI (q + 0)) (nI 0) (nI q) (nI q)
  cases d0 : inC Bt N 48 57 q with
  | false =>
    rw [s0 d0, Nat.sub_self] at K0
    exact stopAt 0 0 3 (by omega) (by omega) (fin 0 0 (by omega) (by decide) (fun _ => K0 rfl) (fun h => by omega)) d0
  | true =>
    obtain ⟨a1, a2, a3⟩ := inC_dig d0
    refine goAt 0 0 3 (by decide) (by decide) d0 ?_
    rw [show 0 * 10 + (Bt (q + 0) - 48) = Bt q - 48 from by rw [Nat.add_zero, Nat.zero_mul, Nat.zero_add], show q + (0 + 1) = q + 1 from rfl]
    cases d1 : inC Bt N 48 57 (q + 1) with
    | false =>
      rw [s1 d0 d1, show q + 1 - q = 1 by omega, if_pos rfl] at K0 K1
      refine stopAt 1 _ 2 (by omega) (by decide) (fin 1 _ (by omega) (by omega) (fun h => by omega) (fun _ => ⟨fun g => K1 _ ?_, fun g => K0 ?_⟩)) d1
      · exact if_pos g
      · exact if_neg g
    | true =>
      obtain ⟨b1, b2, b3⟩ := inC_dig d1
      refine goAt 1 _ 2 (by decide) (by omega) d1 ?_
      cases d2 : inC Bt N 48 57 (q + 2) with
      | false =>
        rw [s2 d0 d1 d2, show q + 2 - q = 2 by omega, if_neg (by decide), if_pos rfl] at K0 K1
        rw [Nat.mul_comm _ 10]
        refine stopAt 2 _ 1 (by omega) (by decide) (fin 2 _ (by omega) (by omega) (fun h => by omega) (fun _ => ⟨fun g => K1 _ ?_, fun g => K0 ?_⟩)) d2
        · exact if_pos g
        · exact if_neg g
      | true =>
        obtain ⟨c1, c2, c3⟩ := inC_dig d2
        have h3 := s3 d0 d1 d2
        rw [if_neg (by omega), if_neg (by omega)] at K0
        have hK := K0 rfl
        refine goAt 2 _ 1 (by decide) (by omega) d2 ?_
        unfold F_X8_takeNumber_12
        by_cases c : N ≤ q + 3
        · exact br1 (nI_le c (by omega)) (fin 3 _ (by omega) (by omega) (fun _ => hK) (fun h => by omega))
        · refine br2 (nI_ge (by omega) (by omega)) ?_
          rw [show nI q + 3 = nI (q + 3) from nI_add q 3]
          exact br1 (nI_le (Nat.le_refl _) (by omega)) (fin 3 _ (by omega) (by omega) (fun _ => hK) (fun h => by omega))
/-! the reference's looks -/
theorem sgn_int : ∀ v, v < 256 → (sgn v).toInt = if v < 128 then (v : Int) else (v : Int) - 256 := by decide +kernel
theorem sgn_lo {v lo : Nat} (hv : v < 256) (hl : lo < 128) : sgn v < nI lo ↔ v < lo ∨ 128 ≤ v := by
  rw [Int32.lt_iff_toInt_lt, sgn_int v hv, nI_toInt (by omega)]
  split <;> omega
theorem sgn_hi {v hi : Nat} (hv : v < 128) (hl : hi < 128) : nI hi < sgn v ↔ hi < v := by
  rw [Int32.lt_iff_toInt_lt, sgn_int v (by omega), nI_toInt (by omega), if_pos hv]
  omega
theorem m_isAt {Bt : Nat → Nat} {N : Nat} {tape : Nat → Int32} (hM : TpM Bt N tape) {p lo hi : Nat} (hp : p < 2 ^ 31) (hlo : lo < 128) (hhi : hi < 128) {post : Int32 → Prop} (K : post (nI (inC Bt N lo hi p).toNat)) : F_X12_isAt (nI N) (nI p) tape (nI lo) (nI hi) post := by
  obtain ⟨h4, hb⟩ := hM
  unfold F_X12_isAt F_X12_isAt_41 F_X12_isAt_42
  unfold inC at K
  by_cases c : p < N
  · obtain ⟨e, h256⟩ := hb p c
    rw [decide_eq_true c, Bool.true_and] at K
    have hin := vp_in_nI (n := p) (N := 400) (by omega) (by decide)
    refine br2 (nI_ge c (by omega)) ⟨hin, ?_⟩
    rw [nI_clamp hp, e]
    by_cases c1 : Bt p < lo ∨ 128 ≤ Bt p
    · refine br1 ((sgn_lo h256 hlo).mpr c1) ⟨by decide, ?_⟩
      have : (decide (lo ≤ Bt p) && decide (Bt p ≤ hi)) = false := by
        rw [← Bool.decide_and]
        exact decide_eq_false (by omega)
      rw [this] at K
      exact K
    · refine br2 (fun g => c1 ((sgn_lo h256 hlo).mp g)) ⟨hin, ?_⟩
      rw [decide_eq_true (show lo ≤ Bt p by omega), Bool.true_and] at K
      by_cases c2 : hi < Bt p
      · rw [decide_eq_false (by omega)] at K
        exact br1 ((sgn_hi (by omega) hhi).mpr c2) ⟨by decide, K⟩
      · rw [decide_eq_true (by omega)] at K
        exact br2 (fun g => c2 ((sgn_hi (by omega) hhi).mp g)) ⟨by decide, K⟩
  · rw [decide_eq_false c, Bool.false_and] at K
    exact br1 (nI_le (by omega) hp) ⟨by decide, K⟩
theorem m_blanks {Bt : Nat → Nat} {N : Nat} {tape : Nat → Int32} (hM : TpM Bt N tape) {p : Nat} (hp : p ≤ N) {bg : Int32} {post : Int32 → Int32 → Prop} (K : post (nI (skB Bt N p)) (nI (skB Bt N p))) : F_X12_blanks (nI N) tape bg (nI p) post := by
  have h4 := hM.1
  unfold F_X12_blanks
  refine ⟨N - p + 1, ?_⟩
  have main : ∀ j p, p + j = N → post (nI (runF (inC Bt N 32 32) j p)) (nI (runF (inC Bt N 32 32) j p)) → F_X12_blanks_0 (nI N) tape post (j + 1) bg (nI p) := by
    intro j
    induction j with
    | zero =>
      intro p hp K
      have : p = N := by omega
      subst this
      unfold F_X12_blanks_0
      refine m_isAt hM (lo := 32) (hi := 32) (by omega) (by decide) (by decide) ?_
      rw [inC_N]
      exact br1 rfl K
    | succ j ih =>
      intro p hp K
      rw [runF] at K
      unfold F_X12_blanks_0
      refine m_isAt hM (lo := 32) (hi := 32) (by omega) (by decide) (by decide) ?_
      rw [nI_1]
      cases e : inC Bt N 32 32 p with
      | false =>
        rw [e, if_neg (by decide)] at K
        exact br1 rfl K
      | true =>
        rw [e, if_pos rfl] at K
        exact br2 (by decide) (ih (p + 1) (by omega) K)
  exact main (N - p) p (by omega) K
theorem m_letters {Bt : Nat → Nat} {N : Nat} {tape : Nat → Int32} (hM : TpM Bt N tape) {p : Nat} (hp : p ≤ N) {bg : Int32} {post : Int32 → Int32 → Prop} (K : post (nI (skB Bt N p)) (nI (ltE Bt N (skB Bt N p)))) : F_X12_letters (nI N) tape bg (nI p) post := by
  have h4 := hM.1
  have hq := sk_le (Bt := Bt) hp
  unfold F_X12_letters
  refine m_blanks hM hp ⟨N - skB Bt N p + 1, ?_⟩
  have main : ∀ j b, b + j = N → runF (inC Bt N 97 122) j b = ltE Bt N (skB Bt N p) → F_X12_letters_4 (nI N) tape post (j + 1) (nI (skB Bt N p)) (nI b) := by
    intro j
    induction j with
    | zero =>
      intro b hb he
      have : b = N := by omega
      subst this
      unfold F_X12_letters_4
      refine m_isAt hM (lo := 97) (hi := 122) (by omega) (by decide) (by decide) ?_
      rw [inC_N]
      rw [runF] at he
      rw [← he] at K
      exact br1 rfl K
    | succ j ih =>
      intro b hb he
      rw [runF] at he
      unfold F_X12_letters_4
      refine m_isAt hM (lo := 97) (hi := 122) (by omega) (by decide) (by decide) ?_
      rw [nI_1]
      cases e : inC Bt N 97 122 b with
      | false =>
        rw [e, if_neg (by decide)] at he
        rw [← he] at K
        exact br1 rfl K
      | true =>
        rw [e, if_pos rfl] at he
        exact br2 (by decide) (ih (b + 1) (by omega) he)
  exact main _ _ (by omega) rfl
theorem sgn_eq {v w : Nat} (hv : v < 256) (hw : w < 128) : sgn v = nI w ↔ v = w := by
  constructor
  · intro h
    have := congrArg Int32.toInt h
    rw [sgn_int v hv, nI_toInt (by omega)] at this
    split at this <;> omega
  · intro h
    subst h
    unfold sgn
    rw [if_pos hw]
theorem m_isWord {Bt : Nat → Nat} {N : Nat} {tape : Nat → Int32} (hM : TpM Bt N tape) {p s : Nat} (hp : p ≤ N) (hs : s < 58) {post : Int32 → Prop} (K : post (nI (isW Bt N s p).toNat)) : F_X12_isWord (nI (skB Bt N p)) (nI (ltE Bt N (skB Bt N p))) tape s post := by
  have h4 := hM.1
  have hq := sk_le (Bt := Bt) hp
  obtain ⟨hl1, hl2⟩ := lt_le (Bt := Bt) hq
  have hel := eLen_100 s hs
  unfold F_X12_isWord F_X12_isWord_21
  refine ⟨hs, ?_⟩
  rw [ni_sub hl1]
  unfold isW at K
  generalize skB Bt N p = q at *
  generalize ltE Bt N q = e at *
  have zero : ∀ f i, post 0 → F_X12_isWord_24 (nI q) (nI e) tape post (f + 1) s (nI 0) i := fun f i k => by
    unfold F_X12_isWord_24 F_X12_isWord_67
    exact br1 rfl ⟨by decide, k⟩
  by_cases c : e - q = eLen s
  · rw [beq_iff_eq.mpr c, Bool.true_and] at K
    refine br4 (by rw [c]) ⟨eLen s + 1, ?_⟩
    have loop : ∀ j i, i + j = eLen s → (∀ x, x < i → Bt (q + x) = (eBytes.getD s []).getD x 0) → F_X12_isWord_24 (nI q) (nI e) tape post (j + 1) s 1 (nI i) := by
      intro j
      induction j with
      | zero =>
        intro i hi hall
        unfold F_X12_isWord_24 F_X12_isWord_67
        refine br2 (by decide) ⟨hs, br1 (nI_le (by omega) (by omega)) ⟨by decide, ?_⟩⟩
        have : (List.range (eLen s)).all (fun j => Bt (q + j) == (eBytes.getD s []).getD j 0) = true := by
          rw [List.all_eq_true]
          intro x hx
          exact beq_iff_eq.mpr (hall x (by have := List.mem_range.mp hx; omega))
        rw [this] at K
        exact K
      | succ j ih =>
        intro i hi hall
        unfold F_X12_isWord_24 F_X12_isWord_60
        have hw := eB_lt s hs i (by omega)
        obtain ⟨et, hb⟩ := hM.2 (q + i) (by omega)
        refine br2 (by decide) ⟨hs, br2 (nI_ge (by omega) (by omega)) ?_⟩
        rw [nI_add, nI_clamp (show q + i < 2 ^ 31 by omega), et, (eCh_at s hs i (by omega)).1, nI_1]
        refine ⟨vp_in_nI (by omega) (by decide), hs, vp_in_nI (by omega) (by omega), ?_⟩
        by_cases g : Bt (q + i) = (eBytes.getD s []).getD i 0
        · refine br4 ((sgn_eq hb hw).mpr g) (ih (i + 1) (by omega) (fun x hx => ?_))
          by_cases e : x = i
          · subst e; exact g
          · exact hall x (by omega)
        · refine br3 (fun r => g ((sgn_eq hb hw).mp r)) (zero j _ ?_)
          have : (List.range (eLen s)).all (fun j => Bt (q + j) == (eBytes.getD s []).getD j 0) = false := by
            cases e : (List.range (eLen s)).all (fun j => Bt (q + j) == (eBytes.getD s []).getD j 0) with
            | false => rfl
            | true => exact absurd (beq_iff_eq.mp (List.all_eq_true.mp e i (List.mem_range.mpr (by omega)))) g
          rw [this] at K
          exact K
    exact loop (eLen s) 0 (by omega) (fun x hx => absurd hx (Nat.not_lt_zero _))
  · rw [beq_eq_false_iff_ne.mpr c, Bool.false_and] at K
    exact br3 (fun r => c (ni_inj (by omega) (by omega) r)) ⟨1, zero 0 0 K⟩
theorem m_passesWord {Bt : Nat → Nat} {N : Nat} {tape : Nat → Int32} (hM : TpM Bt N tape) {p s : Nat} (hp : p ≤ N) (hs : s < 58) {bg : Int32} {post : Int32 → Int32 → Int32 → Prop} (K1 : isW Bt N s p = true → post 1 (nI (skB Bt N p)) (nI (ltE Bt N (skB Bt N p)))) (K0 : isW Bt N s p = false → post 0 (nI (skB Bt N p)) (nI (skB Bt N p))) : F_X12_passesWord (nI N) tape bg (nI p) s post := by
  unfold F_X12_passesWord
  refine m_letters hM hp (m_isWord hM hp hs ?_)
  cases e : isW Bt N s p with
  | true => exact br2 (by decide) (K1 e)
  | false => exact br1 rfl ⟨by decide, K0 e⟩
theorem m_passesSign {Bt : Nat → Nat} {N : Nat} {tape : Nat → Int32} (hM : TpM Bt N tape) {p c : Nat} (hp : p ≤ N) (hc : c < 128) {bg : Int32} {post : Int32 → Int32 → Int32 → Prop} (K1 : sgA Bt N c p = true → post 1 (nI (skB Bt N p)) (nI (skB Bt N p + 1))) (K0 : sgA Bt N c p = false → post 0 (nI (skB Bt N p)) (nI (skB Bt N p))) : F_X12_passesSign (nI N) tape bg (nI p) (nI c) post := by
  have h4 := hM.1
  have hq := sk_le (Bt := Bt) hp
  unfold F_X12_passesSign
  refine m_blanks hM hp (m_isAt hM (by omega) hc hc ?_)
  rw [nI_1]
  unfold sgA at K1 K0
  cases e : inC Bt N c c (skB Bt N p) with
  | true => exact br3 (by decide) (K1 e)
  | false => exact br4 rfl ⟨by decide, K0 e⟩
theorem m_isFigure {Bt : Nat → Nat} {N : Nat} {tape : Nat → Int32} (hM : TpM Bt N tape) {p : Nat} (hp : p ≤ N) {bg : Int32} {post : Int32 → Int32 → Int32 → Prop} (K : post (nI (inC Bt N 48 57 (skB Bt N p)).toNat) (nI (skB Bt N p)) (nI (skB Bt N p))) : F_X12_isFigure (nI N) tape bg (nI p) post := by
  have h4 := hM.1
  have hq := sk_le (Bt := Bt) hp
  unfold F_X12_isFigure
  exact m_blanks hM hp (m_isAt hM (lo := 48) (hi := 57) (by omega) (by decide) (by decide) ⟨bb1 _, K⟩)
theorem m_number {Bt : Nat → Nat} {N : Nat} {tape : Nat → Int32} (hM : TpM Bt N tape) {p lo hi : Nat} (hp : p ≤ N) (hlo : lo < 100) (hhi : hi < 100) {bg : Int32} {post : Int32 → Int32 → Int32 → Prop} (K1 : ∀ v, pNum Bt N lo hi p = some v → post (nI v) (nI (skB Bt N p)) (nI (dgE Bt N (skB Bt N p)))) (K0 : pNum Bt N lo hi p = none → ∀ pos, post (-1) (nI (skB Bt N p)) pos) : F_X12_number (nI N) tape bg (nI p) (nI lo) (nI hi) post := by
  have h4 := hM.1
  have hq := sk_le (Bt := Bt) hp
  unfold F_X12_number
  refine m_blanks hM hp ⟨N - skB Bt N p + 1, ?_⟩
  unfold pNum gN at K1 K0
  generalize skB Bt N p = q at *
  obtain ⟨hd1, hd2⟩ := dg_le (Bt := Bt) hq
  have hin : ∀ i, q ≤ i → i < dgE Bt N q → inC Bt N 48 57 i = true := fun i a b => runF_in _ _ i a b
  have hend : inC Bt N 48 57 (dgE Bt N q) = false := runF_end _ _ (by rw [show q + (N - q) = N by omega]; exact inC_N _ _ _ _)
  have main : ∀ j i v, q + i + j = N → q + i ≤ dgE Bt N q → v < 100 → (i = 0 → v = 0) → (i = 1 → v = Bt q - 48) → (2 ≤ i → v = 10 * (Bt q - 48) + (Bt (q + 1) - 48)) → F_X12_number_6 (nI N) tape post (j + 1) (nI lo) (nI hi) (nI v) (nI q) (nI (q + i)) := by
    intro j
    induction j with
    | zero =>
      intro i v hj hqi hv v0 v1 v2
      have hE : dgE Bt N q = q + i := by omega
      unfold F_X12_number_6 F_X12_number_99 F_X12_number_104
      refine m_isAt hM (lo := 48) (hi := 57) (by omega) (by decide) (by decide) ?_
      have hz : inC Bt N 48 57 (q + i) = false := by rw [show q + i = N by omega]; exact inC_N _ _ _ _
      rw [hz]
      refine br1 rfl ?_
      rw [hE, show q + i - q = i by omega] at K1 K0
      by_cases c0 : i = 0
      · subst c0
        exact br1 rfl (K0 rfl _)
      · refine br2 (fun g => c0 (by have := ni_inj (by omega) (by omega) g; omega)) ?_
        rw [ni_sub (by omega), show q + i - q = i by omega]
        by_cases c3 : 2 < i
        · rw [if_neg (by omega), if_neg (by omega)] at K0
          exact br1 (nI_lt (a := 2) c3 (by omega)) (K0 rfl _)
        · refine br2 (nI_nlt (a := 2) (by omega) (by decide)) ?_
          have hK1 : lo ≤ v ∧ v ≤ hi → post (nI v) (nI q) (nI (q + i)) := fun g => by
            refine K1 v ?_
            by_cases c1 : i = 1
            · rw [if_pos c1, ← v1 c1]; exact if_pos g
            · rw [if_neg c1, if_pos (by omega), ← v2 (by omega)]; exact if_pos g
          have hK0 : ¬ (lo ≤ v ∧ v ≤ hi) → ∀ pos, post (-1) (nI q) pos := fun g => by
            refine K0 ?_
            by_cases c1 : i = 1
            · rw [if_pos c1, ← v1 c1]; exact if_neg g
            · rw [if_neg c1, if_pos (by omega), ← v2 (by omega)]; exact if_neg g
          by_cases c1 : lo ≤ v
          · refine br2 (nI_nlt c1 (by omega)) ?_
            by_cases c2 : v ≤ hi
            · exact br1 (nI_le c2 (by omega)) (hK1 ⟨c1, c2⟩)
            · exact br2 (nI_ge (by omega) (by omega)) (hK0 (fun g => c2 g.2) _)
          · exact br1 (nI_lt (by omega) (by omega)) (hK0 (fun g => c1 g.1) _)
    | succ j ih =>
      intro i v hj hqi hv v0 v1 v2
      unfold F_X12_number_6 F_X12_number_51 F_X12_number_99 F_X12_number_104
      refine m_isAt hM (lo := 48) (hi := 57) (by omega) (by decide) (by decide) ?_
      rw [ni_sub (by omega), show q + i - q = i by omega, nI_1]
      cases e : inC Bt N 48 57 (q + i) with
      | true =>
        have hlt : q + i < dgE Bt N q := by
          rcases Nat.lt_or_ge (q + i) (dgE Bt N q) with h | h
          · exact h
          · have : q + i = dgE Bt N q := by omega
            rw [this, hend] at e
            exact absurd e (by decide)
        obtain ⟨g1, g2, g3⟩ := inC_dig e
        refine br2 (by decide) ?_
        rw [show q + i + 1 = q + (i + 1) by omega]
        by_cases c2 : 2 ≤ i
        · exact br1 (nI_le (a := 2) c2 (by omega)) (ih (i + 1) v (by omega) (by omega) hv (fun h => by omega) (fun h => by omega) (fun _ => v2 c2))
        · refine br2 (nI_ge (b := 2) (by omega) (by decide)) ⟨vp_in_nI (by omega) (by decide), ?_⟩
          obtain ⟨et, hb⟩ := hM.2 (q + i) g1
          have es : sgn (Bt (q + i)) = nI (Bt (q + i)) := by unfold sgn; rw [if_pos (by omega)]
          have hvs : v ≤ 9 := by
            by_cases c0 : i = 0
            · have := v0 c0; omega
            · have := v1 (by omega)
              have := (inC_dig (hin q (Nat.le_refl _) (by omega))).2
              omega
          rw [nI_clamp (by omega), et, es, show (10 : Int32) * nI v = nI (10 * v) from ni_mul 10 v, nI_add, show nI (10 * v + Bt (q + i)) - 48 = nI (10 * v + Bt (q + i) - 48) from ni_sub (b := 48) (by omega)]
          refine ih (i + 1) _ (by omega) (by omega) (by omega) (fun h => by omega) (fun h => ?_) (fun h => ?_)
          · have : i = 0 := by omega
            subst this
            rw [v0 rfl, Nat.add_zero]
            omega
          · have : i = 1 := by omega
            subst this
            rw [v1 rfl]
            omega
      | false =>
        have hE : dgE Bt N q = q + i := by
          rcases Nat.lt_or_ge (q + i) (dgE Bt N q) with h | h
          · have := hin (q + i) (by omega) h
            rw [e] at this
            exact absurd this (by decide)
          · omega
        refine br1 rfl ?_
        rw [hE, show q + i - q = i by omega] at K1 K0
        by_cases c0 : i = 0
        · subst c0
          exact br1 rfl (K0 rfl _)
        · refine br2 (fun g => c0 (by have := ni_inj (by omega) (by omega) g; omega)) ?_
          by_cases c3 : 2 < i
          · rw [if_neg (by omega), if_neg (by omega)] at K0
            exact br1 (nI_lt (a := 2) c3 (by omega)) (K0 rfl _)
          · refine br2 (nI_nlt (a := 2) (by omega) (by decide)) ?_
            have hK1 : lo ≤ v ∧ v ≤ hi → post (nI v) (nI q) (nI (q + i)) := fun g => by
              refine K1 v ?_
              by_cases c1 : i = 1
              · rw [if_pos c1, ← v1 c1]; exact if_pos g
              · rw [if_neg c1, if_pos (by omega), ← v2 (by omega)]; exact if_pos g
            have hK0 : ¬ (lo ≤ v ∧ v ≤ hi) → ∀ pos, post (-1) (nI q) pos := fun g => by
              refine K0 ?_
              by_cases c1 : i = 1
              · rw [if_pos c1, ← v1 c1]; exact if_neg g
              · rw [if_neg c1, if_pos (by omega), ← v2 (by omega)]; exact if_neg g
            by_cases c1 : lo ≤ v
            · refine br2 (nI_nlt c1 (by omega)) ?_
              by_cases c2 : v ≤ hi
              · exact br1 (nI_le c2 (by omega)) (hK1 ⟨c1, c2⟩)
              · exact br2 (nI_ge (by omega) (by omega)) (hK0 (fun g => c2 g.2) _)
            · exact br1 (nI_lt (by omega) (by omega)) (hK0 (fun g => c1 g.1) _)
  exact main (N - q) 0 0 (by omega) (by omega) (by decide) (fun _ => rfl) (fun h => by omega) (fun h => by omega)
/-! places that are the same behind blanks -/
theorem sgA_sk {Bt : Nat → Nat} {N c p : Nat} (hp : p ≤ N) : sgA Bt N c (skB Bt N p) = sgA Bt N c p := by unfold sgA; rw [sk_idem hp]
theorem isW_sk {Bt : Nat → Nat} {N s p : Nat} (hp : p ≤ N) : isW Bt N s (skB Bt N p) = isW Bt N s p := by unfold isW; rw [sk_idem hp]
/-- words that are there are those that are told -/
theorem getD_ext : ∀ (l m : List Nat), l.length = m.length → (∀ i, i < l.length → l.getD i 0 = m.getD i 0) → l = m
  | [], [], _, _ => rfl
  | [], b :: m, h, _ => by simp at h
  | a :: l, [], h, _ => by simp at h
  | a :: l, b :: m, h, g => by
    have e0 : a = b := g 0 (by simp)
    rw [e0, getD_ext l m (by simpa using h) (fun i hi => g (i + 1) (by simpa using hi))]
theorem isW_two {Bt : Nat → Nat} {N s t p : Nat} (h1 : isW Bt N s p = true) (h2 : isW Bt N t p = true) : eBytes.getD s [] = eBytes.getD t [] := by
  unfold isW at h1 h2
  rw [Bool.and_eq_true, beq_iff_eq, List.all_eq_true] at h1 h2
  obtain ⟨a1, a2⟩ := h1
  obtain ⟨b1, b2⟩ := h2
  have hl : eLen s = eLen t := by omega
  have ls : (eBytes.getD s []).length = eLen s := rfl
  have lt : (eBytes.getD t []).length = eLen t := rfl
  refine getD_ext _ _ (by omega) (fun i hi => ?_)
  have p1 := beq_iff_eq.mp (a2 i (List.mem_range.mpr (by omega)))
  have p2 := beq_iff_eq.mp (b2 i (List.mem_range.mpr (by omega)))
  exact p1.symm.trans p2
theorem isW_no {Bt : Nat → Nat} {N s t p : Nat} (h1 : isW Bt N s p = true) (h : eBytes.getD s [] ≠ eBytes.getD t []) : isW Bt N t p = false := by
  cases e : isW Bt N t p with
  | false => rfl
  | true => exact absurd (isW_two h1 e) h
theorem isW_same {Bt : Nat → Nat} {N s t p : Nat} (h : eBytes.getD s [] = eBytes.getD t []) : isW Bt N s p = isW Bt N t p := by
  have hl : eLen s = eLen t := congrArg List.length h
  unfold isW
  rw [hl, h]
