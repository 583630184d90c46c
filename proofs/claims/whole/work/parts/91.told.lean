/-! pairs of nodes, as they are told -/
def ixP (a b : Nat) : Nat := max a b * (max a b - 1) / 2 + min a b
def ixOk (n a b : Nat) : Bool := a == b || (decide (ixP a b < n * (n - 1) / 2) && (List.range n).all (fun u => (List.range n).all (fun w => u == w || ((ixP a b == ixP u w) == ((u == a && w == b) || (u == b && w == a))))))
theorem ixOk_all : ∀ n, n ≤ 6 → ∀ a, a < n → ∀ b, b < n → ixOk n a b = true := by decide +kernel
theorem ixP_at {n a b : Nat} (hn : n ≤ 6) (ha : a < n) (hb : b < n) (hab : a ≠ b) : ixP a b < n * (n - 1) / 2 ∧ ∀ u, u < n → ∀ w, w < n → u ≠ w → (ixP a b = ixP u w ↔ ((u = a ∧ w = b) ∨ (u = b ∧ w = a))) := by
  have h := ixOk_all n hn a ha b hb
  unfold ixOk at h
  rw [beq_eq_false_iff_ne.mpr hab, Bool.false_or, Bool.and_eq_true, decide_eq_true_iff, List.all_eq_true] at h
  obtain ⟨g1, g2⟩ := h
  refine ⟨g1, fun u hu w hw huw => ?_⟩
  have g := List.all_eq_true.mp (g2 u (List.mem_range.mpr hu)) w (List.mem_range.mpr hw)
  rw [beq_eq_false_iff_ne.mpr huw, Bool.false_or] at g
  have g := beq_iff_eq.mp g
  constructor
  · intro e
    rw [beq_iff_eq.mpr e] at g
    have g := g.symm
    simpa using g
  · intro e
    have : ((u == a && w == b) || (u == b && w == a)) = true := by simpa using e
    rw [this] at g
    exact beq_iff_eq.mp g
theorem half_15 : ∀ n, n ≤ 6 → n * (n - 1) / 2 ≤ 15 := by decide
def CodeIs (n D P c : Nat) : Prop := c < 2 ^ LN n ∧ (∀ v, v < n → dkb n c v = D.testBit v) ∧ ∀ u v, u < n → v < n → u ≠ v → egb n c u v = P.testBit (ixP u v)
theorem code_0 (n : Nat) : CodeIs n 0 0 0 := by
  refine ⟨Nat.pow_pos (by decide), fun v _ => ?_, fun u v _ _ _ => ?_⟩
  · unfold dkb; rw [Nat.zero_testBit, Nat.zero_testBit]
  · unfold egb; rw [Nat.zero_testBit, Nat.zero_testBit, Bool.and_false]
def dkOk (n v : Nat) : Bool := decide (LN n - 1 - LN v < LN n) && ((List.range n).all (fun w => (LN n - 1 - LN v == LN n - 1 - LN w) == (v == w)) && (List.range n).all (fun u => (List.range n).all (fun w => u == w || LN n - 1 - LN v != LN n - 2 - LN (max u w) - min u w)))
theorem dkOk_all : ∀ n, n ≤ 6 → ∀ v, v < n → dkOk n v = true := by decide +kernel
theorem code_dark {n D P c v : Nat} (hn : n ≤ 6) (hv : v < n) (h : CodeIs n D P c) : CodeIs n (D ||| 2 ^ v) P (c ||| 2 ^ (LN n - 1 - LN v)) := by
  have g := dkOk_all n hn v hv
  unfold dkOk at g
  rw [Bool.and_eq_true, Bool.and_eq_true, decide_eq_true_iff, List.all_eq_true, List.all_eq_true] at g
  obtain ⟨g1, g2, g3⟩ := g
  obtain ⟨h1, h2, h3⟩ := h
  refine ⟨Nat.or_lt_two_pow h1 (Nat.pow_lt_pow_right (by decide) g1), fun w hw => ?_, fun u w hu hw huw => ?_⟩
  · have e := beq_iff_eq.mp (g2 w (List.mem_range.mpr hw))
    have h2 := h2 w hw
    unfold dkb at h2 ⊢
    rw [tb_or_pow, tb_or_pow, h2]
    congr 1
  · have e := List.all_eq_true.mp (g3 u (List.mem_range.mpr hu)) w (List.mem_range.mpr hw)
    rw [beq_eq_false_iff_ne.mpr huw, Bool.false_or] at e
    have e : LN n - 1 - LN v ≠ LN n - 2 - LN (max u w) - min u w := by simpa using e
    have h3 := h3 u w hu hw huw
    unfold egb at h3 ⊢
    rw [tb_or_pow, decide_eq_false e, Bool.or_false]
    exact h3
theorem code_edge {n D P c a b : Nat} (hn : n ≤ 6) (ha : a < n) (hb : b < n) (hab : a ≠ b) (h : CodeIs n D P c) : CodeIs n D (P ||| 2 ^ ixP a b) (c ||| 2 ^ (LN n - 2 - LN (max a b) - min a b)) := by
  obtain ⟨l1, l2, l3⟩ := line_at n hn a ha b hb hab
  obtain ⟨i1, i2⟩ := ixP_at hn ha hb hab
  obtain ⟨h1, h2, h3⟩ := h
  refine ⟨Nat.or_lt_two_pow h1 l3, fun w hw => ?_, fun u w hu hw huw => ?_⟩
  · have h2 := h2 w hw
    unfold dkb at h2 ⊢
    rw [tb_or_pow, decide_eq_false (show ¬ (LN n - 2 - LN (max a b) - min a b = LN n - 1 - LN w) from fun e => l1 w hw e.symm), Bool.or_false]
    exact h2
  · have h3 := h3 u w hu hw huw
    unfold egb at h3 ⊢
    rw [decide_eq_true huw, Bool.true_and] at h3 ⊢
    rw [tb_or_pow, tb_or_pow, h3]
    congr 1
    refine decide_eq_decide.mpr ?_
    rw [l2 u hu w hw huw, i2 u hu w hw huw]
theorem popc_set {x i : Nat} (h : x.testBit i = false) : ∀ k, i < k → popc (x ||| 2 ^ i) k = popc x k + 1
  | 0, hk => by omega
  | k + 1, hk => by
    rw [popc, popc, tb_or_pow]
    by_cases e : i = k
    · subst e
      have same : ∀ j, j ≤ i → popc (x ||| 2 ^ i) j = popc x j := by
        intro j
        induction j with
        | zero => intro _; rfl
        | succ j ih => intro hj; rw [popc, popc, ih (by omega), tb_or_pow, decide_eq_false (by omega), Bool.or_false]
      rw [same i (Nat.le_refl _), h, decide_eq_true rfl]
      rfl
    · rw [popc_set h k (by omega), decide_eq_false (by omega), Bool.or_false]
      omega
def nxP (Bt : Nat → Nat) (N p : Nat) : Nat := dgE Bt N (skB Bt N p)
theorem nx_le {Bt : Nat → Nat} {N p : Nat} (h : p ≤ N) : nxP Bt N p ≤ N := (dg_le (sk_le h)).2
def rdPr (Bt : Nat → Nat) (N n : Nat) : Nat → Nat → Nat → Except Nat (Nat × Nat)
  | 0, _, _ => .error 0
  | f + 1, P, p => match pNum Bt N 0 (n - 1) p with
    | none => .error (skB Bt N p)
    | some a => match pNum Bt N 0 (n - 1) (nxP Bt N p) with
      | none => .error (skB Bt N (nxP Bt N p))
      | some b => if a = b ∨ P.testBit (ixP a b) = true then .error (skB Bt N (nxP Bt N p)) else if sgA Bt N 44 (nxP Bt N (nxP Bt N p)) = true then rdPr Bt N n f (P ||| 2 ^ ixP a b) (skB Bt N (nxP Bt N (nxP Bt N p)) + 1) else .ok (P ||| 2 ^ ixP a b, skB Bt N (nxP Bt N (nxP Bt N p)))
theorem rdPr_lt {Bt : Nat → Nat} {N n : Nat} (hn : n ≤ 6) (h1 : 1 ≤ n) : ∀ f P p P' p', P < 2 ^ (n * (n - 1) / 2) → p ≤ N → rdPr Bt N n f P p = .ok (P', p') → P' < 2 ^ (n * (n - 1) / 2) ∧ p' ≤ N
  | 0, P, p, P', p', _, _, h => by simp [rdPr] at h
  | f + 1, P, p, P', p', hP, hp, h => by
    have x1 := nx_le (Bt := Bt) hp
    have x2 := nx_le (Bt := Bt) x1
    rw [rdPr] at h
    split at h
    · simp at h
    · rename_i a ea
      split at h
      · simp at h
      · rename_i b eb
        have ga := (pNum_some ea).2
        have gb := (pNum_some eb).2
        split at h
        · simp at h
        · rename_i g
          have hab : a ≠ b := fun e => g (Or.inl e)
          have hi := (ixP_at hn (show a < n by omega) (show b < n by omega) hab).1
          have hP2 : (P ||| 2 ^ ixP a b) < 2 ^ (n * (n - 1) / 2) := Nat.or_lt_two_pow hP (Nat.pow_lt_pow_right (by decide) hi)
          split at h
          · rename_i s
            exact rdPr_lt hn h1 f _ _ P' p' hP2 (sgA_lt s) h
          · have h := Except.ok.inj h
            obtain ⟨rfl, rfl⟩ := Prod.mk.inj h
            exact ⟨hP2, sk_le x2⟩
theorem x_readEdges {Bt : Nat → Nat} {N : Nat} {xb : Nat → Int32} (hX : TpX Bt N xb) {n D : Nat} (hn : n ≤ 6) (h1 : 1 ≤ n) {post : Int32 → Int32 → Int32 → Prop} : ∀ f P p c bg, popc P 15 + f = 16 → P < 2 ^ (n * (n - 1) / 2) → p ≤ N → CodeIs n D P c → (∀ P' p' c', rdPr Bt N n f P p = .ok (P', p') → CodeIs n D P' c' → ∀ bg, post (nI c') bg (nI p')) → (∀ e, rdPr Bt N n f P p = .error e → ∀ pos, post (-1) (nI e) pos) → F_X9_readEdges_5 (nI N) xb post f (nI n) (nI c) (nI (16 - f)) bg (nI p) := by
  have h4 := hX.1
  have h15 := half_15 n hn
  intro f
  induction f with
  | zero =>
    intro P p c bg hf hP
    have := popc_le P 15
    omega
  | succ f ih =>
    intro P p c bg hf hP hp hc Kok Kerr
    have x1 := nx_le (Bt := Bt) hp
    have x2 := nx_le (Bt := Bt) x1
    have hc31 : c < 2 ^ 31 := Nat.lt_of_lt_of_le hc.1 (Nat.pow_le_pow_right (by decide) (by have := LN_mono hn; have h6 : LN 6 = 21 := rfl; omega))
    unfold F_X9_readEdges_5 F_X9_readEdges_65
    rw [show nI n - 1 = nI (n - 1) from ni_sub (b := 1) h1]
    refine br2 (nI_nlt (a := 15) (by omega) (by decide)) ?_
    rw [rdPr] at Kok Kerr
    refine x_takeNumber hX (lo := 0) hp (by decide) (by omega) (fun a ea => ?_) (fun ea pos => ?_)
    · rw [ea] at Kok Kerr
      have ga := (pNum_some ea).2
      refine br3 (fun e => (nm1 (m := a) (by omega) e).elim) (x_takeNumber hX (lo := 0) x1 (by decide) (by omega) (fun b eb => ?_) (fun eb pos => ?_))
      · have eb' : pNum Bt N 0 (n - 1) (nxP Bt N p) = some b := eb
        simp only [eb'] at Kok Kerr
        have gb := (pNum_some eb).2
        refine br2 (fun e => (nm1 (m := b) (by omega) e).elim) ?_
        by_cases cab : a = b
        · rw [if_pos (Or.inl cab)] at Kerr
          exact br1 (by rw [cab]) (Kerr _ rfl _)
        · have hi := (ixP_at hn (show a < n by omega) (show b < n by omega) cab).1
          refine br2 (fun g => cab (ni_inj (by omega) (by omega) g)) (f_areJoined hn hc31 (by omega) (by omega) ?_)
          rw [hc.2.2 a b (by omega) (by omega) cab]
          cases ct : P.testBit (ixP a b) with
          | true =>
            rw [if_pos (Or.inr ct)] at Kerr
            exact br2 (by decide) (Kerr _ rfl _)
          | false =>
            rw [if_neg (fun g => by rcases g with g | g; exact cab g; rw [ct] at g; exact absurd g (by decide))] at Kok Kerr
            have hP2 : (P ||| 2 ^ ixP a b) < 2 ^ (n * (n - 1) / 2) := Nat.or_lt_two_pow hP (Nat.pow_lt_pow_right (by decide) hi)
            have hc2 := code_edge hn (show a < n by omega) (show b < n by omega) cab hc
            have hpc := popc_set ct 15 (by omega)
            refine br1 rfl (f_edge hn (by omega) (by omega) cab ?_)
            rw [ni_or]
            refine x_takesSign hX (c := 44) x2 (by decide) (fun s => ?_) (fun s => ?_)
            · have s' : sgA Bt N 44 (nxP Bt N (nxP Bt N p)) = true := s
              rw [if_pos s'] at Kok Kerr
              refine br3 (by decide) ?_
              rw [nI_1, show 16 - (f + 1) + 1 = 16 - f by omega]
              exact ih _ _ _ _ (by omega) hP2 (sgA_lt s) hc2 Kok Kerr
            · have s' : ¬ sgA Bt N 44 (nxP Bt N (nxP Bt N p)) = true := by
                have : sgA Bt N 44 (nxP Bt N (nxP Bt N p)) = false := s
                rw [this]; decide
              rw [if_neg s'] at Kok
              exact br4 rfl (Kok _ _ _ rfl hc2 _)
      · have eb' : pNum Bt N 0 (n - 1) (nxP Bt N p) = none := eb
        simp only [eb'] at Kerr
        exact br1 rfl (Kerr _ rfl _)
    · rw [ea] at Kerr
      exact br4 rfl (Kerr _ rfl _)
theorem m_readPairs16 {Bt : Nat → Nat} {N : Nat} {tape : Nat → Int32} (hM : TpM Bt N tape) {n : Nat} (hn : n ≤ 6) (h1 : 1 ≤ n) {post : Int32 → Int32 → Int32 → Int32 → Prop} : ∀ f P p bg, popc P 15 + f = 16 → P < 2 ^ (n * (n - 1) / 2) → p ≤ N → (∀ P' p', rdPr Bt N n f P p = .ok (P', p') → ∀ bg, post 1 bg (nI P') (nI p')) → (∀ e, rdPr Bt N n f P p = .error e → ∀ pr pos, post 0 (nI e) pr pos) → F_X12_readPairs_16 (nI N) tape post f (nI n) bg (nI P) (nI p) := by
  have h4 := hM.1
  have h15 := half_15 n hn
  intro f
  induction f with
  | zero =>
    intro P p bg hf hP
    have := popc_le P 15
    omega
  | succ f ih =>
    intro P p bg hf hP hp Kok Kerr
    have x1 := nx_le (Bt := Bt) hp
    have x2 := nx_le (Bt := Bt) x1
    have hP15 : P < 2 ^ 15 := Nat.lt_of_lt_of_le hP (Nat.pow_le_pow_right (by decide) h15)
    unfold F_X12_readPairs_16 F_X12_readPairs_42 F_X12_readPairs_53
    rw [show nI n - 1 = nI (n - 1) from ni_sub (b := 1) h1]
    rw [rdPr] at Kok Kerr
    refine m_number hM (lo := 0) hp (by decide) (by omega) (fun a ea => ?_) (fun ea pos => ?_)
    · rw [ea] at Kok Kerr
      have ga := (pNum_some ea).2
      refine br3 (fun e => (nm1 (m := a) (by omega) e).elim) (m_number hM (lo := 0) x1 (by decide) (by omega) (fun b eb => ?_) (fun eb pos => ?_))
      · have eb' : pNum Bt N 0 (n - 1) (nxP Bt N p) = some b := eb
        simp only [eb'] at Kok Kerr
        have gb := (pNum_some eb).2
        refine br2 (fun e => (nm1 (m := b) (by omega) e).elim) ?_
        by_cases cab : a = b
        · rw [if_pos (Or.inl cab)] at Kerr
          exact br4 (by rw [cab]) ⟨by decide, Kerr _ rfl _ _⟩
        · have hi := (ixP_at hn (show a < n by omega) (show b < n by omega) cab).1
          refine br3 (fun g => cab (ni_inj (by omega) (by omega) g)) (fun x ex => ?_)
          have ex : x = nI (ixP a b) := by
            have hm : max a b ≤ 5 := by omega
            have hmul : max a b * (max a b - 1) ≤ 5 * 4 := Nat.mul_le_mul hm (by omega)
            rw [ex, nI_max (by omega) (by omega), nI_min (by omega) (by omega), show nI (max a b) - 1 = nI (max a b - 1) from ni_sub (b := 1) (by omega), ni_mul, show nI (max a b * (max a b - 1)) / 2 = nI (max a b * (max a b - 1) / 2) from ni_div (b := 2) (by omega) (by decide) (by decide), nI_add]
            rfl
          subst ex
          refine f_holds (by omega) (by omega) ?_
          rw [ni_1shl (by omega), ni_or]
          cases ct : P.testBit (ixP a b) with
          | true =>
            rw [if_pos (Or.inr ct)] at Kerr
            exact br2 (by decide) ⟨by decide, Kerr _ rfl _ _⟩
          | false =>
            rw [if_neg (fun g => by rcases g with g | g; exact cab g; rw [ct] at g; exact absurd g (by decide))] at Kok Kerr
            have hP2 : (P ||| 2 ^ ixP a b) < 2 ^ (n * (n - 1) / 2) := Nat.or_lt_two_pow hP (Nat.pow_lt_pow_right (by decide) hi)
            have hpc := popc_set ct 15 (by omega)
            refine br1 rfl (m_passesSign hM (c := 44) x2 (by decide) (fun s => ?_) (fun s => ?_))
            · have s' : sgA Bt N 44 (nxP Bt N (nxP Bt N p)) = true := s
              rw [if_pos s'] at Kok Kerr
              exact br3 (by decide) (ih _ _ _ (by omega) hP2 (sgA_lt s) Kok Kerr)
            · have s' : ¬ sgA Bt N 44 (nxP Bt N (nxP Bt N p)) = true := by
                have : sgA Bt N 44 (nxP Bt N (nxP Bt N p)) = false := s
                rw [this]; decide
              rw [if_neg s'] at Kok
              exact br4 rfl (Kok _ _ rfl _)
      · have eb' : pNum Bt N 0 (n - 1) (nxP Bt N p) = none := eb
        simp only [eb'] at Kerr
        exact br1 rfl ⟨by decide, Kerr _ rfl _ _⟩
    · rw [ea] at Kerr
      exact br4 rfl (br1 rfl ⟨by decide, Kerr _ rfl _ _⟩)
/-- pairs behind a colon, or none -/
def rdPs (Bt : Nat → Nat) (N n p : Nat) : Except Nat (Nat × Nat) := if sgA Bt N 58 p = true then rdPr Bt N n 16 0 (skB Bt N p + 1) else .ok (0, skB Bt N p)
theorem m_readPairs {Bt : Nat → Nat} {N : Nat} {tape : Nat → Int32} (hM : TpM Bt N tape) {n p : Nat} (hn : n ≤ 6) (h1 : 1 ≤ n) (hp : p ≤ N) {bg pr : Int32} {post : Int32 → Int32 → Int32 → Int32 → Prop} (Kok : ∀ P' p', rdPs Bt N n p = .ok (P', p') → ∀ bg, post 1 bg (nI P') (nI p')) (Kerr : ∀ e, rdPs Bt N n p = .error e → ∀ pr pos, post 0 (nI e) pr pos) : F_X12_readPairs (nI N) tape bg pr (nI p) (nI n) post := by
  unfold F_X12_readPairs
  unfold rdPs at Kok Kerr
  refine m_passesSign hM (c := 58) hp (by decide) (fun s => ?_) (fun s => ?_)
  · rw [if_pos s] at Kok Kerr
    exact br3 (by decide) ⟨16, m_readPairs16 hM hn h1 16 0 _ _ (by decide) (Nat.pow_pos (by decide)) (sgA_lt s) Kok Kerr⟩
  · rw [if_neg (by rw [s]; decide)] at Kok
    exact br4 rfl (Kok _ _ rfl _)
/-! dark nodes told -/
def rdDk (Bt : Nat → Nat) (N n : Nat) : Nat → Nat → Nat → Except Nat (Nat × Nat)
  | 0, _, _ => .error 0
  | f + 1, D, p => match pNum Bt N 0 (n - 1) p with
    | none => .error (skB Bt N p)
    | some a => if D.testBit a = true then .error (skB Bt N p) else if inC Bt N 48 57 (skB Bt N (nxP Bt N p)) = true then rdDk Bt N n f (D ||| 2 ^ a) (skB Bt N (nxP Bt N p)) else .ok (D ||| 2 ^ a, skB Bt N (nxP Bt N p))
theorem rdDk_lt {Bt : Nat → Nat} {N n : Nat} (h1 : 1 ≤ n) : ∀ f D p D' p', D < 2 ^ n → p ≤ N → rdDk Bt N n f D p = .ok (D', p') → D' < 2 ^ n ∧ p' ≤ N
  | 0, D, p, D', p', _, _, h => by simp [rdDk] at h
  | f + 1, D, p, D', p', hD, hp, h => by
    have x1 := nx_le (Bt := Bt) hp
    rw [rdDk] at h
    split at h
    · simp at h
    · rename_i a ea
      have ga := (pNum_some ea).2
      have hD2 : (D ||| 2 ^ a) < 2 ^ n := Nat.or_lt_two_pow hD (Nat.pow_lt_pow_right (by decide) (by omega))
      split at h
      · simp at h
      · split at h
        · exact rdDk_lt h1 f _ _ D' p' hD2 (sk_le x1) h
        · have h := Except.ok.inj h
          obtain ⟨rfl, rfl⟩ := Prod.mk.inj h
          exact ⟨hD2, sk_le x1⟩
theorem popc_n {D n : Nat} (hn : n ≤ 6) (hD : D < 2 ^ n) : popc D 6 ≤ n := by
  have := popc_big hD (6 - n)
  rw [show n + (6 - n) = 6 by omega] at this
  rw [this]
  exact popc_le D n
theorem x_readColours20 {Bt : Nat → Nat} {N : Nat} {xb : Nat → Int32} (hX : TpX Bt N xb) {n : Nat} (hn : n ≤ 6) (h1 : 1 ≤ n) {post : Int32 → Int32 → Int32 → Prop} : ∀ f D p c bg, popc D 6 + f = n + 1 → D < 2 ^ n → p ≤ N → CodeIs n D 0 c → (∀ D' p' c', rdDk Bt N n f D p = .ok (D', p') → CodeIs n D' 0 c' → ∀ bg, post (nI c') bg (nI p')) → (∀ e, rdDk Bt N n f D p = .error e → ∀ pos, post (-1) (nI e) pos) → F_X9_readColours_20 (nI N) xb post (F_X9_readColours_4 (nI N) xb post f) (nI n) (nI c) (nI (n + 1 - f)) bg (nI p) := by
  have h4 := hX.1
  intro f
  induction f with
  | zero =>
    intro D p c bg hf hD
    have := popc_n hn hD
    omega
  | succ f ih =>
    intro D p c bg hf hD hp hc Kok Kerr
    have x1 := nx_le (Bt := Bt) hp
    have hc31 : c < 2 ^ 31 := Nat.lt_of_lt_of_le hc.1 (Nat.pow_le_pow_right (by decide) (by have := LN_mono hn; have h6 : LN 6 = 21 := rfl; omega))
    rw [rdDk] at Kok Kerr
    unfold F_X9_readColours_20 F_X9_readColours_47
    rw [show nI n - 1 = nI (n - 1) from ni_sub (b := 1) h1]
    refine x_takeNumber hX (lo := 0) hp (by decide) (by omega) (fun a ea => ?_) (fun ea pos => ?_)
    · rw [ea] at Kok Kerr
      have ga := (pNum_some ea).2
      refine br2 (fun e => (nm1 (m := a) (by omega) e).elim) (f_dark hn (by omega) ?_)
      have hbit : c.testBit (LN n - 1 - LN a) = D.testBit a := hc.2.1 a (by omega)
      cases ct : D.testBit a with
      | true =>
        simp only [ct, if_true] at Kerr
        rw [ct] at hbit
        refine br2 (fun g => ?_) (Kerr _ rfl _)
        have := (and_pow0 hc31).mp g
        rw [hbit] at this
        exact absurd this (by decide)
      | false =>
        simp only [ct, Bool.false_eq_true, if_false] at Kok Kerr
        rw [ct] at hbit
        have hD2 : (D ||| 2 ^ a) < 2 ^ n := Nat.or_lt_two_pow hD (Nat.pow_lt_pow_right (by decide) (by omega))
        have hc2 := code_dark hn (show a < n by omega) hc
        have hpc := popc_set ct 6 (by omega)
        have hpn := popc_n hn hD2
        refine br1 ((and_pow0 hc31).mpr hbit) (f_dark hn (by omega) ?_)
        rw [ni_or, nI_1, show n + 1 - (f + 1) + 1 = n + 1 - f by omega]
        unfold F_X9_readColours_4 F_X9_readColours_64
        refine br2 (nI_nlt (by omega) (by omega)) (br2 (nI_ne0 (by omega) (by omega)) (x_digitComes hX x1 ?_))
        cases dg : inC Bt N 48 57 (skB Bt N (nxP Bt N p)) with
        | false =>
          have dg' : inC Bt N 48 57 (skB Bt N (nxP Bt N p)) = false := dg
          simp only [dg', Bool.false_eq_true, if_false] at Kok
          exact br1 rfl (Kok _ _ _ rfl hc2 _)
        | true =>
          have dg' : inC Bt N 48 57 (skB Bt N (nxP Bt N p)) = true := dg
          simp only [dg', if_true] at Kok Kerr
          refine br2 (by decide) ?_
          exact ih _ _ _ _ (by omega) hD2 (sk_le x1) hc2 Kok Kerr
    · rw [ea] at Kerr
      exact br1 rfl (Kerr _ rfl _)
theorem m_readDarks19 {Bt : Nat → Nat} {N : Nat} {tape w : Nat → Int32} (hM : TpM Bt N tape) {n : Nat} (hn : n ≤ 6) (h1 : 1 ≤ n) {post : Int32 → Int32 → Int32 → Int32 → Prop} : ∀ f D p bg, popc D 6 + f = n + 1 → D < 2 ^ n → p ≤ N → (∀ D' p', rdDk Bt N n f D p = .ok (D', p') → ∀ bg, post 1 bg (nI D') (nI p')) → (∀ e, rdDk Bt N n f D p = .error e → ∀ dk pos, post 0 (nI e) dk pos) → F_X12_readDarks_19 (nI N) tape w post f (nI n) bg (nI D) (nI p) := by
  have h4 := hM.1
  intro f
  induction f with
  | zero =>
    intro D p bg hf hD
    have := popc_n hn hD
    omega
  | succ f ih =>
    intro D p bg hf hD hp Kok Kerr
    have x1 := nx_le (Bt := Bt) hp
    have hD64 : D < 2 ^ 6 := Nat.lt_of_lt_of_le hD (Nat.pow_le_pow_right (by decide) hn)
    rw [rdDk] at Kok Kerr
    unfold F_X12_readDarks_19 F_X12_readDarks_44
    rw [show nI n - 1 = nI (n - 1) from ni_sub (b := 1) h1]
    refine m_number hM (lo := 0) hp (by decide) (by omega) (fun a ea => ?_) (fun ea pos => ?_)
    · rw [ea] at Kok Kerr
      have ga := (pNum_some ea).2
      refine br2 (fun e => (nm1 (m := a) (by omega) e).elim) (f_holds (by omega) (by omega) ?_)
      rw [ni_1shl (by omega), ni_or]
      cases ct : D.testBit a with
      | true =>
        simp only [ct, if_true] at Kerr
        exact br2 (by decide) ⟨by decide, Kerr _ rfl _ _⟩
      | false =>
        simp only [ct, Bool.false_eq_true, if_false] at Kok Kerr
        have hD2 : (D ||| 2 ^ a) < 2 ^ n := Nat.or_lt_two_pow hD (Nat.pow_lt_pow_right (by decide) (by omega))
        have hpc := popc_set ct 6 (by omega)
        refine br1 rfl (m_isFigure hM x1 ?_)
        cases dg : inC Bt N 48 57 (skB Bt N (nxP Bt N p)) with
        | false =>
          have dg' : inC Bt N 48 57 (skB Bt N (nxP Bt N p)) = false := dg
          simp only [dg', Bool.false_eq_true, if_false] at Kok
          exact br4 rfl (Kok _ _ rfl _)
        | true =>
          have dg' : inC Bt N 48 57 (skB Bt N (nxP Bt N p)) = true := dg
          simp only [dg', if_true] at Kok Kerr
          exact br3 (by decide) (ih _ _ _ (by omega) hD2 (sk_le x1) Kok Kerr)
    · rw [ea] at Kerr
      exact br1 rfl ⟨by decide, Kerr _ rfl _ _⟩
/-! the text of a net -/
def rdNE (Bt : Nat → Nat) (N n D P p : Nat) : Except Nat (Nat × Nat × Nat) := if skB Bt N p = N then .ok (n, D, P) else .error (skB Bt N p)
def rdNP (Bt : Nat → Nat) (N n D p : Nat) : Except Nat (Nat × Nat × Nat) := match rdPs Bt N n p with
  | .error e => .error e
  | .ok (P, p') => rdNE Bt N n D P p'
def rdNet (Bt : Nat → Nat) (N : Nat) (dk : Bool) (sz : Nat) : Except Nat (Nat × Nat × Nat) := if isW Bt N 14 0 = true then (match pNum Bt N 1 sz (ltE Bt N (skB Bt N 0)) with
  | none => .error (skB Bt N (ltE Bt N (skB Bt N 0)))
  | some n => if isW Bt N 1 (nxP Bt N (ltE Bt N (skB Bt N 0))) = true then (if dk = true then (match rdDk Bt N n (n + 1) 0 (ltE Bt N (skB Bt N (nxP Bt N (ltE Bt N (skB Bt N 0))))) with
      | .error e => .error e
      | .ok (D, p) => rdNP Bt N n D p) else .error (skB Bt N (nxP Bt N (ltE Bt N (skB Bt N 0))))) else rdNP Bt N n 0 (nxP Bt N (ltE Bt N (skB Bt N 0)))) else .error (skB Bt N 0)
theorem rdPs_sk {Bt : Nat → Nat} {N n p : Nat} (hp : p ≤ N) : rdPs Bt N n (skB Bt N p) = rdPs Bt N n p := by
  unfold rdPs
  rw [sgA_sk hp, sk_idem hp]
theorem rdNP_sk {Bt : Nat → Nat} {N n D p : Nat} (hp : p ≤ N) : rdNP Bt N n D (skB Bt N p) = rdNP Bt N n D p := by
  unfold rdNP
  rw [rdPs_sk hp]
theorem rdPs_lt {Bt : Nat → Nat} {N n p P' p' : Nat} (hn : n ≤ 6) (h1 : 1 ≤ n) (hp : p ≤ N) (h : rdPs Bt N n p = .ok (P', p')) : P' < 2 ^ (n * (n - 1) / 2) ∧ p' ≤ N := by
  unfold rdPs at h
  split at h
  · rename_i s
    exact rdPr_lt hn h1 16 0 _ P' p' (Nat.pow_pos (by decide)) (sgA_lt s) h
  · have h := Except.ok.inj h
    obtain ⟨rfl, rfl⟩ := Prod.mk.inj h
    exact ⟨Nat.pow_pos (by decide), sk_le hp⟩
theorem word_dark {Bt : Nat → Nat} {N n p : Nat} (hp : p ≤ N) (h : isW Bt N 1 p = true) : rdNP Bt N n 0 p = .error (skB Bt N p) := by
  have hq := sk_le (Bt := Bt) hp
  obtain ⟨l1, l2⟩ := lt_le (Bt := Bt) hq
  unfold isW at h
  rw [Bool.and_eq_true, beq_iff_eq, List.all_eq_true] at h
  obtain ⟨g1, g2⟩ := h
  have z1 : eLen 1 = 4 := rfl
  have g2 := beq_iff_eq.mp (g2 0 (by rw [z1]; decide))
  rw [Nat.add_zero] at g2
  have g2 : Bt (skB Bt N p) = 100 := g2
  have hs : sgA Bt N 58 p = false := by
    unfold sgA inC
    rw [g2]
    simp
  unfold rdNP rdPs rdNE
  rw [hs]
  simp only [Bool.false_eq_true, if_false]
  rw [sk_idem hp, if_neg (by omega)]
theorem x_net82 {Bt : Nat → Nat} {N : Nat} {xb : Nat → Int32} (hX : TpX Bt N xb) {n D P p c : Nat} (hp : p ≤ N) (hc : c < 2 ^ 31) {bg hd sz cd nd : Int32} {post : Int32 → Int32 → Int32 → Int32 → Int32 → Prop} (Kok : rdNE Bt N n D P p = .ok (n, D, P) → ∀ bg pos, post 1 bg pos (nI c) (nI n)) (Kerr : ∀ e, rdNE Bt N n D P p = .error e → ∀ pos cd nd, post 0 (nI e) pos cd nd) : F_X9_readNet_82 (nI N) xb hd sz post (nI n) (nI c) bg (nI p) cd nd := by
  unfold F_X9_readNet_82 F_X9_readNet_95
  unfold rdNE at Kok Kerr
  refine br2 (fun e => (nm1 hc e).elim) (x_goesOn hX hp (fun h => ?_) (fun h => ?_))
  · rw [if_neg (by omega)] at Kerr
    exact br2 (by decide) ⟨by decide, Kerr _ rfl _ _ _⟩
  · rw [if_pos h] at Kok
    exact br1 rfl (Kok rfl _ _)
theorem code_31 {n D P c : Nat} (hn : n ≤ 6) (hc : CodeIs n D P c) : c < 2 ^ 31 := Nat.lt_of_lt_of_le hc.1 (Nat.pow_le_pow_right (by decide) (by have := LN_mono hn; have h6 : LN 6 = 21 := rfl; omega))
theorem x_net58 {Bt : Nat → Nat} {N : Nat} {xb : Nat → Int32} (hX : TpX Bt N xb) {n D p c : Nat} (hn : n ≤ 6) (h1 : 1 ≤ n) (hp : p ≤ N) (hc : CodeIs n D 0 c) {bg hd sz cd nd : Int32} {post : Int32 → Int32 → Int32 → Int32 → Int32 → Prop} (Kok : ∀ P c', rdNP Bt N n D p = .ok (n, D, P) → CodeIs n D P c' → ∀ bg pos, post 1 bg pos (nI c') (nI n)) (Kerr : ∀ e, rdNP Bt N n D p = .error e → ∀ pos cd nd, post 0 (nI e) pos cd nd) : F_X9_readNet_58 (nI N) xb hd sz post (nI n) (nI c) bg (nI p) cd nd := by
  have hc31 := code_31 hn hc
  unfold rdNP at Kok Kerr
  unfold F_X9_readNet_58
  refine br2 (fun e => (nm1 hc31 e).elim) (x_takesSign hX (c := 58) hp (by decide) (fun s => ?_) (fun s => ?_))
  · unfold rdPs at Kok Kerr
    rw [if_pos s] at Kok Kerr
    refine br2 (by decide) ⟨16, ?_⟩
    refine x_readEdges hX hn h1 16 0 _ c _ (by decide) (Nat.pow_pos (by decide)) (sgA_lt s) hc (fun P' p' c' hr hc' bg => ?_) (fun e hr pos => ?_)
    · simp only [hr] at Kok Kerr
      have hp' := (rdPr_lt hn h1 16 0 _ P' p' (Nat.pow_pos (by decide)) (sgA_lt s) hr).2
      exact x_net82 hX (D := D) (P := P') hp' (code_31 hn hc') (fun h => Kok P' c' h hc') Kerr
    · simp only [hr] at Kerr
      unfold F_X9_readNet_82 F_X9_readNet_95
      exact br1 rfl ⟨by decide, Kerr _ rfl _ _ _⟩
  · unfold rdPs at Kok Kerr
    rw [if_neg (by rw [s]; decide)] at Kok Kerr
    exact br1 rfl (x_net82 hX (D := D) (P := 0) (sk_le hp) hc31 (fun h => Kok 0 c h hc) Kerr)
theorem x_readNet {Bt : Nat → Nat} {N : Nat} {xb : Nat → Int32} (hX : TpX Bt N xb) {dk : Bool} {sz : Nat} (hsz : sz ≤ 6) {bg cd nd : Int32} {post : Int32 → Int32 → Int32 → Int32 → Int32 → Prop} (Kok : ∀ n D P c, 1 ≤ n → n ≤ sz → rdNet Bt N dk sz = .ok (n, D, P) → CodeIs n D P c → (dk = false → D = 0) → ∀ bg pos, post 1 bg pos (nI c) (nI n)) (Kerr : ∀ e, rdNet Bt N dk sz = .error e → ∀ pos cd nd, post 0 (nI e) pos cd nd) : F_X9_readNet (nI N) xb (nI dk.toNat) (nI sz) bg 0 cd nd post := by
  have h4 := hX.1
  have y0 := sk_le (Bt := Bt) (Nat.zero_le N)
  have y1 := (lt_le (Bt := Bt) y0).2
  have y2 := nx_le (Bt := Bt) y1
  have y3 := sk_le (Bt := Bt) y2
  have y4 := (lt_le (Bt := Bt) y3).2
  unfold F_X9_readNet F_X9_readNet_56
  unfold rdNet at Kok Kerr
  refine x_takesWord hX (p := 0) (Nat.zero_le N) (by decide) (fun s => ?_) (fun s => ?_)
  · rw [if_pos s] at Kok Kerr
    refine br3 (by decide) (x_takeNumber hX (lo := 1) y1 (by decide) (by omega) (fun n en => ?_) (fun en pos => ?_))
    · simp only [en] at Kok Kerr
      obtain ⟨n1, n2⟩ := pNum_some en
      refine br3 (fun e => (nm1 (m := n) (by omega) e).elim) (x_takesWord hX y2 (by decide) (fun s2 => ?_) (fun s2 => ?_))
      · have s2' : isW Bt N 1 (nxP Bt N (ltE Bt N (skB Bt N 0))) = true := s2
        simp only [s2', if_true] at Kok Kerr
        cases dk with
        | false =>
          simp only [Bool.false_eq_true, if_false] at Kerr
          refine br2 (by decide) (br1 rfl ?_)
          unfold F_X9_readNet_58 F_X9_readNet_82 F_X9_readNet_95
          exact br1 rfl (br1 rfl ⟨by decide, Kerr _ rfl _ _ _⟩)
        | true =>
          simp only [if_true] at Kok Kerr
          refine br2 (by decide) (br2 (by decide) ?_)
          unfold F_X9_readColours
          refine ⟨n + 1 + 1, ?_⟩
          unfold F_X9_readColours_4
          refine br2 (nI_pos (by omega)) (br1 rfl ?_)
          have key := x_readColours20 hX (n := n) (by omega) n1 (post := fun r bg pos => F_X9_readNet_58 (nI N) xb (nI true.toNat) (nI sz) post (nI n) r bg pos cd nd) (n + 1) 0 (ltE Bt N (skB Bt N (nxP Bt N (ltE Bt N (skB Bt N 0))))) 0 (nI (skB Bt N (nxP Bt N (ltE Bt N (skB Bt N 0))))) (by rw [show popc 0 6 = 0 by decide, Nat.zero_add]) (Nat.pow_pos (by decide)) y4 (code_0 n) (fun D' p' c' hr hc' bg => ?_) (fun e hr pos => ?_)
          · rw [Nat.sub_self] at key
            exact key
          · simp only [hr] at Kok Kerr
            obtain ⟨_, hp'⟩ := rdDk_lt n1 _ _ _ D' p' (Nat.pow_pos (by decide)) y4 hr
            exact x_net58 hX (by omega) n1 hp' hc' (fun P c h hc => Kok n D' P c n1 n2 h hc (fun g => absurd g (by decide))) Kerr
          · simp only [hr] at Kerr
            unfold F_X9_readNet_58 F_X9_readNet_82 F_X9_readNet_95
            exact br1 rfl (br1 rfl ⟨by decide, Kerr _ rfl _ _ _⟩)
      · have s2' : isW Bt N 1 (nxP Bt N (ltE Bt N (skB Bt N 0))) = false := s2
        simp only [s2', Bool.false_eq_true, if_false] at Kok Kerr
        refine br1 rfl ?_
        have y3' : skB Bt N (nxP Bt N (ltE Bt N (skB Bt N 0))) ≤ N := y3
        exact x_net58 hX (D := 0) (by omega) n1 y3' (code_0 n) (fun P c h hc => Kok n 0 P c n1 n2 (by rw [← rdNP_sk y2]; exact h) hc (fun _ => rfl)) (fun e h => Kerr e (by rw [← rdNP_sk y2]; exact h))
    · simp only [en] at Kerr
      exact br4 rfl ⟨by decide, Kerr _ rfl _ _ _⟩
  · rw [if_neg (by rw [s]; decide)] at Kerr
    exact br4 rfl ⟨by decide, Kerr _ rfl _ _ _⟩
theorem m_net57 {Bt : Nat → Nat} {N : Nat} {tape w : Nat → Int32} (hM : TpM Bt N tape) {n D P p c : Nat} (hn : n ≤ 6) (h1 : 1 ≤ n) (hp : p ≤ N) (hP : P < 2 ^ (n * (n - 1) / 2)) (hc : CodeIs n D P c) {bg dk : Int32} {post : Int32 → Int32 → Int32 → Int32 → Int32 → Int32 → (Nat → Int32) → Prop} (Kok : rdNE Bt N n D P p = .ok (n, D, P) → ∀ by' bg pr pos, (∀ v, v < n → by' v = nI (byM n c v)) → post 1 bg dk (nI n) pr pos by') (Kerr : ∀ e, rdNE Bt N n D P p = .error e → ∀ nd pr pos by', post 0 (nI e) dk nd pr pos by') : ∀ j a by', a + j = n → Tied n c a 0 by' → F_X12_readNet_57 (nI N) tape w post (j + 1) (nI n) (nI a) bg dk (nI n) (nI P) (nI p) by' := by
  have h4 := hM.1
  have h15 := half_15 n hn
  have hP15 : P < 2 ^ 15 := Nat.lt_of_lt_of_le hP (Nat.pow_le_pow_right (by decide) h15)
  have hs := sk_le (Bt := Bt) hp
  intro j
  induction j with
  | zero =>
    intro a by' ha hT
    have : a = n := by omega
    subst this
    unfold F_X12_readNet_57 F_X12_readNet_126
    unfold rdNE at Kok Kerr
    refine br1 (nI_le (Nat.le_refl _) (by omega)) (m_blanks hM hp ?_)
    by_cases c1 : skB Bt N p = N
    · rw [if_pos c1] at Kok
      refine br4 (by rw [c1]) ⟨by decide, Kok rfl by' _ _ _ (fun v hv => ?_)⟩
      rw [hT v hv, mask_congr (fun i hi => es_full a c a v i hv hi)]
      rfl
    · rw [if_neg c1] at Kerr
      exact br3 (fun g => c1 (ni_inj (by omega) (by omega) g)) ⟨by decide, Kerr _ rfl _ _ _ _⟩
  | succ j ih =>
    intro a by' ha hT
    unfold F_X12_readNet_57
    refine br2 (nI_ge (by omega) (by omega)) ⟨a + 1, ?_⟩
    have inner : ∀ i b by', b + i = a → Tied n c a b by' → F_X12_readNet_64 (nI N) tape w post (F_X12_readNet_57 (nI N) tape w post (j + 1)) (i + 1) (nI n) (nI a) (nI b) bg dk (nI n) (nI P) (nI p) by' := by
      intro i
      induction i with
      | zero =>
        intro b by' hb hT
        have : b = a := by omega
        subst this
        unfold F_X12_readNet_64
        refine br1 (nI_le (Nat.le_refl _) (by omega)) ?_
        rw [nI_1]
        exact ih (b + 1) by' (by omega) (tied_congr hT (fun v u _ _ => es_row n c b v u))
      | succ i ihi =>
        intro b by' hb hT
        obtain ⟨t0, t1⟩ := tied_join (show a < n by omega) (show b < a by omega) hT
        have ha5 : a ≤ 5 := by omega
        have hmul : a * (a - 1) ≤ 5 * 4 := Nat.mul_le_mul ha5 (by omega)
        have hix : ixP a b = a * (a - 1) / 2 + b := by unfold ixP; rw [Nat.max_eq_left (by omega), Nat.min_eq_right (by omega)]
        have heg := hc.2.2 a b (by omega) (by omega) (by omega)
        rw [hix] at heg
        unfold F_X12_readNet_64 F_X12_readNet_94
        rw [show nI a - 1 = nI (a - 1) from ni_sub (b := 1) (by omega), ni_mul, show nI (a * (a - 1)) / 2 = nI (a * (a - 1) / 2) from ni_div (b := 2) (by omega) (by decide) (by decide), nI_add]
        refine br2 (nI_ge (by omega) (by omega)) (f_holds (by omega) (by omega) ?_)
        rw [← heg, nI_1]
        cases e : egb n c a b with
        | false => exact br1 rfl (ihi (b + 1) by' (by omega) (t0 e))
        | true => exact br2 (by decide) (f_ties (by omega) (by omega) (ihi (b + 1) _ (by omega) (t1 e)))
    exact inner a 0 by' (by omega) hT
theorem code_ex {n D P : Nat} (hn : n ≤ 6) (h1 : 1 ≤ n) (hD : D < 2 ^ n) (hP : P < 2 ^ (n * (n - 1) / 2)) : ∃ c, CodeIs n D P c := by
  have hB : GB n (pB n P) := gb_pB n P
  refine ⟨cod D (pB n P) (List.range n), ?_, fun v hv => ?_, fun u v hu hv huv => ?_⟩
  · have := cod_lt D (pB n P) (List.range n)
    rw [List.length_range] at this
    exact this
  · have h := congrArg (fun x => x.testBit v) (dkM_cod hB hD)
    have h : (dkM n (cod D (pB n P) (List.range n))).testBit v = D.testBit v := h
    rw [dkM_tb, decide_eq_true hv, Bool.true_and] at h
    exact h
  · have h := congrArg (fun x => x.testBit v) (byM_cod (D := D) hB hu)
    have h : (byM n (cod D (pB n P) (List.range n)) u).testBit v = (pB n P u).testBit v := h
    rw [byM_tb, decide_eq_true hv, Bool.true_and, pB_tb, decide_eq_true hv, decide_eq_true (Ne.symm huv), Bool.true_and, Bool.true_and] at h
    rw [h]
    unfold ixP
    rw [Nat.max_comm, Nat.min_comm]
theorem m_readNet {Bt : Nat → Nat} {N : Nat} {tape : Nat → Int32} (hM : TpM Bt N tape) {k : KD} (hk : KOk k) {w : Nat → Int32} (hw : WR k w) {bg dk0 nd0 pr : Int32} {by0 : Nat → Int32} {post : Int32 → Int32 → Int32 → Int32 → Int32 → Int32 → (Nat → Int32) → Prop} (hcode : ∀ n D P, rdNet Bt N (kDk k) (kSz k) = .ok (n, D, P) → ∃ c, CodeIs n D P c ∧ ∀ by' bg pr pos, (∀ v, v < n → by' v = nI (byM n c v)) → post 1 bg (nI D) (nI n) pr pos by') (Kerr : ∀ e, rdNet Bt N (kDk k) (kSz k) = .error e → ∀ dk nd pr pos by', post 0 (nI e) dk nd pr pos by') : F_X12_readNet (nI N) tape w bg dk0 nd0 pr 0 by0 post := by
  have hsz := size_le hk
  have h4 := hM.1
  have y0 := sk_le (Bt := Bt) (Nat.zero_le N)
  have y1 := (lt_le (Bt := Bt) y0).2
  have y2 := nx_le (Bt := Bt) y1
  have y3 := sk_le (Bt := Bt) y2
  have y4 := (lt_le (Bt := Bt) y3).2
  unfold F_X12_readNet F_X12_readNet_53
  have hcode := hcode
  unfold rdNet at hcode Kerr
  have hword : isW Bt N 52 0 = isW Bt N 14 0 := isW_same (by decide)
  refine m_passesWord hM (p := 0) (Nat.zero_le N) (by decide) (fun s => ?_) (fun s => ?_)
  · rw [hword] at s
    rw [if_pos s] at Kerr
    simp only [if_pos s] at hcode
    refine br3 (by decide) ⟨vp_in_nI (n := 0) (by decide) (by decide), ?_⟩
    rw [w_size hw]
    refine m_number hM (lo := 1) y1 (by decide) (by omega) (fun n en => ?_) (fun en pos => ?_)
    · simp only [en] at hcode Kerr
      obtain ⟨n1, n2⟩ := pNum_some en
      refine br3 (fun e => (nm1 (m := n) (by omega) e).elim) (f_takesCode (c := 0) (by omega) (Nat.pow_pos (by decide)) (fun dark nodes by' hR => ?_))
      obtain ⟨r1, r2, _, r4⟩ := hR
      have d0 : dkM n 0 = 0 := by
        apply Nat.eq_of_testBit_eq
        intro i
        rw [dkM_tb]
        unfold dkb
        rw [Nat.zero_testBit, Nat.zero_testBit, Bool.and_false]
      have b0 : ∀ v, byM n 0 v = 0 := fun v => by
        apply Nat.eq_of_testBit_eq
        intro i
        rw [byM_tb]
        unfold egb
        rw [Nat.zero_testBit, Nat.zero_testBit, Bool.and_false, Bool.and_false]
      rw [d0] at r1
      subst r1 r2
      have rest : ∀ D p, D < 2 ^ n → p ≤ N → (∀ P, rdNP Bt N n D p = .ok (n, D, P) → ∃ c, CodeIs n D P c ∧ ∀ by' bg pr pos, (∀ v, v < n → by' v = nI (byM n c v)) → post 1 bg (nI D) (nI n) pr pos by') → (∀ e, rdNP Bt N n D p = .error e → ∀ dk nd pr pos by', post 0 (nI e) dk nd pr pos by') → ∀ bg, F_X12_readPairs (nI N) tape bg pr (nI p) (nI n) (fun r47 t_begin_47 t_pairs_47 t_point_47 => ((¬ r47 = 0 → ∃ n57 : Nat, F_X12_readNet_57 (nI N) tape w post n57 (nI n) 0 t_begin_47 (nI D) (nI n) t_pairs_47 t_point_47 by') ∧ (r47 = 0 → ((0 : Int32) &&& 1 = 0 ∧ post 0 t_begin_47 (nI D) (nI n) t_pairs_47 t_point_47 by')))) := by
        intro D p hD hp kok kerr bg
        refine m_readPairs hM (by omega) n1 hp (fun P' p' hr bg => ?_) (fun e hr pr pos => ?_)
        · obtain ⟨hP', hp'⟩ := rdPs_lt (by omega) n1 hp hr
          refine br3 (by decide) ⟨n + 1, ?_⟩
          have hne : rdNP Bt N n D p = rdNE Bt N n D P' p' := by unfold rdNP; rw [hr]
          by_cases he : skB Bt N p' = N
          · have hok : rdNP Bt N n D p = .ok (n, D, P') := by rw [hne]; unfold rdNE; rw [if_pos he]
            obtain ⟨c, hc, K⟩ := kok P' hok
            refine m_net57 hM (by omega) n1 hp' hP' hc (fun _ by' bg pr pos h => K by' bg pr pos h) (fun e h => kerr e (by rw [hne]; exact h) (nI D)) n 0 by' (by omega) (fun v hv => ?_)
            rw [(r4 v hv).1, b0]
            have z1 : maskOf (es n c 0 0 v) n = 0 := by
              apply Nat.eq_of_testBit_eq; intro i; rw [mask_tb]; unfold es; simp
            rw [z1]
          · have herr : rdNP Bt N n D p = .error (skB Bt N p') := by rw [hne]; unfold rdNE; rw [if_neg he]
            obtain ⟨c, hc⟩ := code_ex (show n ≤ 6 by omega) n1 hD hP'
            refine m_net57 hM (by omega) n1 hp' hP' hc (fun h => ?_) (fun e h => kerr e (by rw [hne]; exact h) (nI D)) n 0 by' (by omega) (fun v hv => ?_)
            · unfold rdNE at h
              rw [if_neg he] at h
              simp at h
            · rw [(r4 v hv).1, b0]
              have z1 : maskOf (es n c 0 0 v) n = 0 := by
                apply Nat.eq_of_testBit_eq; intro i; rw [mask_tb]; unfold es; simp
              rw [z1]
        · exact br4 rfl ⟨by decide, kerr e (by unfold rdNP; rw [hr]) _ _ _ _ _⟩
      unfold F_X12_readDarks F_X12_readDarks_17
      refine f_isDarkKind hw ?_
      cases e : kDk k with
      | false =>
        simp only [e, Bool.false_eq_true, if_false] at hcode Kerr
        refine br1 rfl (br2 (by decide) ?_)
        have same : (if isW Bt N 1 (nxP Bt N (ltE Bt N (skB Bt N 0))) = true then Except.error (skB Bt N (nxP Bt N (ltE Bt N (skB Bt N 0)))) else rdNP Bt N n 0 (nxP Bt N (ltE Bt N (skB Bt N 0)))) = rdNP Bt N n 0 (nxP Bt N (ltE Bt N (skB Bt N 0))) := by
          by_cases c : isW Bt N 1 (nxP Bt N (ltE Bt N (skB Bt N 0))) = true
          · rw [if_pos c, word_dark y2 c]
          · rw [if_neg c]
        rw [same] at Kerr
        simp only [same] at hcode
        exact rest 0 _ (Nat.pow_pos (by decide)) y2 (fun P h => hcode n 0 P h) Kerr _
      | true =>
        simp only [e, if_true] at hcode Kerr
        refine br2 (by decide) (m_passesWord hM y2 (by decide) (fun s2 => ?_) (fun s2 => ?_))
        · have s2' : isW Bt N 1 (nxP Bt N (ltE Bt N (skB Bt N 0))) = true := by
            rw [← isW_same (s := 40) (t := 1) (by decide)]; exact s2
          simp only [s2', if_true] at hcode Kerr
          refine br3 (by decide) ⟨n + 1, ?_⟩
          refine m_readDarks19 hM (by omega) n1 (n + 1) 0 _ _ (by rw [show popc 0 6 = 0 by decide, Nat.zero_add]) (Nat.pow_pos (by decide)) y4 (fun D' p' hr bg => ?_) (fun ee hr dk pos => ?_)
          · have hr' : rdDk Bt N n (n + 1) 0 (ltE Bt N (skB Bt N (nxP Bt N (ltE Bt N (skB Bt N 0))))) = .ok (D', p') := hr
            simp only [hr'] at hcode Kerr
            obtain ⟨hD', hp'⟩ := rdDk_lt n1 _ _ _ D' p' (Nat.pow_pos (by decide)) y4 hr
            exact br2 (by decide) (rest D' p' hD' hp' (fun P h => hcode n D' P h) Kerr _)
          · have hr' : rdDk Bt N n (n + 1) 0 (ltE Bt N (skB Bt N (nxP Bt N (ltE Bt N (skB Bt N 0))))) = .error ee := hr
            simp only [hr'] at Kerr
            exact br1 rfl ⟨by decide, Kerr _ rfl _ _ _ _ _⟩
        · have s2' : isW Bt N 1 (nxP Bt N (ltE Bt N (skB Bt N 0))) = false := by
            rw [← isW_same (s := 40) (t := 1) (by decide)]; exact s2
          simp only [s2', Bool.false_eq_true, if_false] at hcode Kerr
          refine br4 rfl (br2 (by decide) ?_)
          exact rest 0 _ (Nat.pow_pos (by decide)) y3 (fun P h => hcode n 0 P (by rw [← rdNP_sk y2]; exact h)) (fun ee h => Kerr ee (by rw [← rdNP_sk y2]; exact h)) _
    · simp only [en] at Kerr
      exact br4 rfl ⟨by decide, Kerr _ rfl _ _ _ _ _⟩
  · rw [hword] at s
    rw [if_neg (by rw [s]; decide)] at Kerr
    exact br4 rfl ⟨by decide, Kerr _ rfl _ _ _ _ _⟩
/-! how many edges a told net has -/
def sumB (f : Nat → Bool) : Nat → Nat
  | 0 => 0
  | n + 1 => sumB f n + (f n).toNat
theorem popc_mask {f : Nat → Bool} {n : Nat} : ∀ j, j ≤ n → popc (maskOf f n) j = sumB f j
  | 0, _ => rfl
  | j + 1, h => by rw [popc, sumB, popc_mask j (by omega), mask_tb, decide_eq_true (by omega), Bool.true_and]
theorem popc_row {n c v : Nat} (hn : n ≤ 6) : popc (byM n c v) 24 = sumB (egb n c v) n := by
  have := popc_big (byM_lt n c v) (24 - n)
  rw [show n + (24 - n) = 24 by omega] at this
  rw [this]
  exact popc_mask n (Nat.le_refl _)
theorem egb_self (n c v : Nat) : egb n c v v = false := by unfold egb; simp
theorem wt_light {n c : Nat} (hn : n ≤ 6) (hc : c < 2 ^ LN n) : popc (c &&& aeM n) 24 = wt (fun _ => false) (fun a b => (byM n c a).testBit b) (List.range n).reverse := by
  have h0 : (fun v => (0 : Nat).testBit v) = (fun _ => false) := by
    funext v
    exact Nat.zero_testBit v
  have hl := cod_lt 0 (byM n c) (List.range n)
  rw [List.length_range] at hl
  have h := popc_cod 0 (byM n c) (List.range n)
  rw [List.length_range, h0] at h
  rw [light_cod hn hc, popc_24 hn hl, h]
theorem ed_gen {n c : Nat} (hn : n ≤ 6) (hc : c < 2 ^ LN n) : popc (c &&& aeM n) 24 = enF (byM n c) n 0 0 / 2 := by
  rw [wt_light hn hc]
  have t : ∀ a b, b < n → (byM n c a).testBit b = egb n c a b := fun a b hb => by rw [byM_tb, decide_eq_true hb, Bool.true_and]
  rcases (by omega : n = 0 ∨ n = 1 ∨ n = 2 ∨ n = 3 ∨ n = 4 ∨ n = 5 ∨ n = 6) with rfl | rfl | rfl | rfl | rfl | rfl | rfl
  · have r : (List.range 0).reverse = [] := by decide
    rw [r]
    simp only [enF, wt, sme, sumB, Nat.reduceAdd, egb_self, Bool.toNat_false, Nat.add_zero, Nat.zero_add]
    try omega
  · have r : (List.range 1).reverse = [0] := by decide
    rw [r]
    simp only [enF, wt, sme, sumB, popc_row (n := 1) (c := c) (by decide : 1 ≤ 6), Nat.reduceAdd, egb_self, Bool.toNat_false, Nat.add_zero, Nat.zero_add]
    try omega
  · have r : (List.range 2).reverse = [1, 0] := by decide
    rw [r]
    simp only [enF, wt, sme, sumB, popc_row (n := 2) (c := c) (by decide : 2 ≤ 6), t 1 0 (by decide), egb_comm 2 c 0 1, Nat.reduceAdd, egb_self, Bool.toNat_false, Nat.add_zero, Nat.zero_add]
    try omega
  · have r : (List.range 3).reverse = [2, 1, 0] := by decide
    rw [r]
    simp only [enF, wt, sme, sumB, popc_row (n := 3) (c := c) (by decide : 3 ≤ 6), t 1 0 (by decide), t 2 0 (by decide), t 2 1 (by decide), egb_comm 3 c 0 1, egb_comm 3 c 0 2, egb_comm 3 c 1 2, Nat.reduceAdd, egb_self, Bool.toNat_false, Nat.add_zero, Nat.zero_add]
    try omega
  · have r : (List.range 4).reverse = [3, 2, 1, 0] := by decide
    rw [r]
    simp only [enF, wt, sme, sumB, popc_row (n := 4) (c := c) (by decide : 4 ≤ 6), t 1 0 (by decide), t 2 0 (by decide), t 2 1 (by decide), t 3 0 (by decide), t 3 1 (by decide), t 3 2 (by decide), egb_comm 4 c 0 1, egb_comm 4 c 0 2, egb_comm 4 c 0 3, egb_comm 4 c 1 2, egb_comm 4 c 1 3, egb_comm 4 c 2 3, Nat.reduceAdd, egb_self, Bool.toNat_false, Nat.add_zero, Nat.zero_add]
    try omega
  · have r : (List.range 5).reverse = [4, 3, 2, 1, 0] := by decide
    rw [r]
    simp only [enF, wt, sme, sumB, popc_row (n := 5) (c := c) (by decide : 5 ≤ 6), t 1 0 (by decide), t 2 0 (by decide), t 2 1 (by decide), t 3 0 (by decide), t 3 1 (by decide), t 3 2 (by decide), t 4 0 (by decide), t 4 1 (by decide), t 4 2 (by decide), t 4 3 (by decide), egb_comm 5 c 0 1, egb_comm 5 c 0 2, egb_comm 5 c 0 3, egb_comm 5 c 0 4, egb_comm 5 c 1 2, egb_comm 5 c 1 3, egb_comm 5 c 1 4, egb_comm 5 c 2 3, egb_comm 5 c 2 4, egb_comm 5 c 3 4, Nat.reduceAdd, egb_self, Bool.toNat_false, Nat.add_zero, Nat.zero_add]
    try omega
  · have r : (List.range 6).reverse = [5, 4, 3, 2, 1, 0] := by decide
    rw [r]
    simp only [enF, wt, sme, sumB, popc_row (n := 6) (c := c) (by decide : 6 ≤ 6), t 1 0 (by decide), t 2 0 (by decide), t 2 1 (by decide), t 3 0 (by decide), t 3 1 (by decide), t 3 2 (by decide), t 4 0 (by decide), t 4 1 (by decide), t 4 2 (by decide), t 4 3 (by decide), t 5 0 (by decide), t 5 1 (by decide), t 5 2 (by decide), t 5 3 (by decide), t 5 4 (by decide), egb_comm 6 c 0 1, egb_comm 6 c 0 2, egb_comm 6 c 0 3, egb_comm 6 c 0 4, egb_comm 6 c 0 5, egb_comm 6 c 1 2, egb_comm 6 c 1 3, egb_comm 6 c 1 4, egb_comm 6 c 1 5, egb_comm 6 c 2 3, egb_comm 6 c 2 4, egb_comm 6 c 2 5, egb_comm 6 c 3 4, egb_comm 6 c 3 5, egb_comm 6 c 4 5, Nat.reduceAdd, egb_self, Bool.toNat_false, Nat.add_zero, Nat.zero_add]
    try omega
theorem ed_form {n c : Nat} (hn : n ≤ 6) (hc : c < 2 ^ LN n) : popc (frm n (dkM n c) (byM n c) &&& aeM n) 24 = enF (byM n c) n 0 0 / 2 := by
  obtain ⟨l, hl, e⟩ := frm_at (n := n) (D := dkM n c) (B := byM n c)
  have hf := frm_lt n (dkM n c) (byM n c)
  have hB := gb_byM n c
  have hll := lex_mem_len hl
  obtain ⟨_, g2⟩ := net_cod (D := dkM n c) hB hll (lex_mem hl)
  rw [e] at g2
  have h1 : cod 0 (byM n (frm n (dkM n c) (byM n c))) (List.range n) = cod 0 (byM n c) l := by
    have := cod_map (D := 0) (D2 := 0) (B := byM n c) (B2 := byM n (frm n (dkM n c) (byM n c))) (f := fun i => l.getD i 0) (l := List.range n) (fun v _ => by rw [Nat.zero_testBit, Nat.zero_testBit]) (fun v hv u hu => g2 v u (List.mem_range.mp hv) (List.mem_range.mp hu))
    rw [this, range_map_getD hll]
  have hl1 := cod_lt 0 (byM n c) l
  rw [hll] at hl1
  have hl2 := cod_lt 0 (byM n c) (List.range n)
  rw [List.length_range] at hl2
  rw [← ed_gen hn hc, light_cod hn hf, h1, light_cod hn hc, popc_24 hn hl1, popc_24 hn hl2, popc_order hn hB hl]
theorem rdNet_D {Bt : Nat → Nat} {N : Nat} {dk : Bool} {sz n D P : Nat} (hsz : sz ≤ 6) (h : rdNet Bt N dk sz = .ok (n, D, P)) : D < 2 ^ n := by
  have y0 := sk_le (Bt := Bt) (Nat.zero_le N)
  have y1 := (lt_le (Bt := Bt) y0).2
  have y2 := nx_le (Bt := Bt) y1
  have y3 := sk_le (Bt := Bt) y2
  have y4 := (lt_le (Bt := Bt) y3).2
  have np : ∀ n' D' p, rdNP Bt N n' D' p = .ok (n, D, P) → n' = n ∧ D' = D := by
    intro n' D' p h
    unfold rdNP at h
    split at h
    · simp at h
    · unfold rdNE at h
      split at h
      · have h := Except.ok.inj h
        exact ⟨congrArg Prod.fst h, congrArg (fun x => x.2.1) h⟩
      · simp at h
  unfold rdNet at h
  split at h
  · split at h
    · simp at h
    · rename_i n' en
      obtain ⟨n1, n2⟩ := pNum_some en
      split at h
      · split at h
        · split at h
          · simp at h
          · rename_i D' p' hr
            obtain ⟨e1, e2⟩ := np _ _ _ h
            subst e1 e2
            exact (rdDk_lt n1 _ _ _ _ _ (Nat.pow_pos (by decide)) y4 hr).1
        · simp at h
      · obtain ⟨e1, e2⟩ := np _ _ _ h
        subst e1 e2
        exact Nat.pow_pos (by decide)
  · simp at h
theorem tape_get {taped fault xl xw : Int32} {tape xb : Nat → Int32} (h : TapeR taped fault tape xl xw xb) : ∃ Bt N, xl = nI N ∧ taped = nI N ∧ TpX Bt N xb ∧ TpM Bt N tape := by
  obtain ⟨h1, _, T, h3, h4, h5⟩ := h
  refine ⟨fun j => if hj : j < T then Classical.choose (h5 j hj) else 0, T, h1.trans h4, h4, ⟨h3, fun j hj => ?_⟩, ⟨h3, fun j hj => ?_⟩⟩
  · have := Classical.choose_spec (h5 j hj)
    simp only [hj, dif_pos]
    exact ⟨this.2.1, this.1⟩
  · have := Classical.choose_spec (h5 j hj)
    simp only [hj, dif_pos]
    exact ⟨this.2.2, this.1⟩
theorem tape_done (e : Int32) (tape xb : Nat → Int32) : TapeR 0 e tape 0 e xb := ⟨rfl, rfl, 0, by decide, rfl, fun j hj => absurd hj (Nat.not_lt_zero _)⟩
theorem told_87 {k : KD} (hk : KOk k) {forms many tape w : Nat → Int32} (hU : LvUp k 7 forms many) {n f : Nat} (h1 : 1 ≤ n) (hn : n ≤ 6) (hf : f < 2 ^ 31) {a1 a2 a3 a4 a5 a6 a7 a8 a9 b1 b2 b3 b4 b5 : Int32} {by' o1 : Nat → Int32} {first : Nat → Int32} {post : Int32 → Int32 → Int32 → Int32 → Int32 → Int32 → Int32 → Int32 → Int32 → Int32 → Int32 → Int32 → Int32 → Int32 → Int32 → Int32 → Int32 → (Nat → Int32) → (Nat → Int32) → (Nat → Int32) → (Nat → Int32) → Prop} (K : ∀ to, (∀ i, i < n → to i = first i) → post (oI (ixF (lvl k n) f)) a1 a2 a3 a4 (nI f) a5 (nI n) a6 a7 a8 a9 b1 b2 b3 b4 b5 by' first o1 to) : ∀ j i to, i + j = n → (∀ x, x < i → to x = first x) → F_X12_told_87 forms many tape w post (j + 1) (nI i) a1 a2 a3 a4 (nI f) a5 (nI n) a6 a7 a8 a9 b1 b2 b3 b4 b5 by' first o1 to := by
  intro j
  induction j with
  | zero =>
    intro i to hi ht
    unfold F_X12_told_87
    exact br1 (nI_le (by omega) (by omega)) (f_numberOf12 hk hU h1 hn hf (K to (fun x hx => ht x (by omega))))
  | succ j ih =>
    intro i to hi ht
    unfold F_X12_told_87
    refine br2 (nI_ge (by omega) (by omega)) ⟨vp_in_nI (by omega) (by decide), vp_in_nI (by omega) (by decide), ?_⟩
    rw [nI_clamp (by omega), nI_1]
    refine ih (i + 1) _ (by omega) (fun x hx => ?_)
    by_cases e : x = i
    · subst e; rw [upd_in]
    · rw [upd_out e]; exact ht x (by omega)
theorem lc3 (xs : Nat → Int32) (L : Nat) (hL3 : L ≤ 3072) : LC3 xs L IInv := by
  unfold LC3
  intro x4 m_begin m_dark m_end m_faultAt m_form m_hasImage m_heldDark m_lasts m_nodes m_pairs m_point m_symmetries m_taped m_thrown m_toldEdges m_toldForm m_toldNodes m_toldSymmetries m_writtenMany m_by m_decks m_draft m_firstOrder m_five m_forms m_held m_image m_many m_order m_seen m_tape m_toldOrder m_world m_written o x_hasImage x_cycleSums_edges x_cycleSums_hasDark x_cycleSums_parts x_cycleSums_ways x_decks x_draft_bannedCircles x_draft_endLines x_draft_endsJoined x_draft_fewestEdges x_draft_hasDark x_draft_least x_draft_most x_draft_mostEdges x_draft_patterns x_draft_ruleLines x_draft_size x_draft_unlike x_draft_words x_draft_patternCodes x_draft_patternNodes x_forms_allBits x_forms_firstOrder x_forms_isBeaten x_forms_isStudy x_forms_isTest x_forms_least x_forms_nodes x_forms_order x_forms_seen x_forms_stillEdges x_forms_symmetries x_forms_sketch_colours x_forms_sketch_darks x_forms_sketch_nodes x_forms_sketch_fans x_forms_sketch_near x_keptLevels_total x_keptLevels_codes x_keptLevels_firsts x_keptRules_bannedCircles x_keptRules_endLines x_keptRules_endsJoined x_keptRules_fewestEdges x_keptRules_hasDark x_keptRules_least x_keptRules_most x_keptRules_mostEdges x_keptRules_patterns x_keptRules_ruleLines x_keptRules_size x_keptRules_unlike x_keptRules_words x_keptRules_patternCodes x_keptRules_patternNodes x_keptWalkers_allParts x_keptWalkers_depths x_keptWalkers_lists x_keptWalkers_ownParts x_levels_total x_levels_codes x_levels_firsts x_match_best x_match_code x_match_one_colours x_match_one_darks x_match_one_nodes x_match_one_fans x_match_one_near x_match_two_colours x_match_two_darks x_match_two_nodes x_match_two_fans x_match_two_near x_page_length x_page_bytes x_rules_bannedCircles x_rules_endLines x_rules_endsJoined x_rules_fewestEdges x_rules_hasDark x_rules_least x_rules_most x_rules_mostEdges x_rules_patterns x_rules_ruleLines x_rules_size x_rules_unlike x_rules_words x_rules_patternCodes x_rules_patternNodes x_sketch_colours x_sketch_darks x_sketch_nodes x_sketch_fans x_sketch_near x_tape_begun x_tape_length x_tape_position x_tape_wrong x_tape_bytes x_texts_code x_texts_nodes x_toldForms_allBits x_toldForms_firstOrder x_toldForms_isBeaten x_toldForms_isStudy x_toldForms_isTest x_toldForms_least x_toldForms_nodes x_toldForms_order x_toldForms_seen x_toldForms_stillEdges x_toldForms_symmetries x_toldForms_sketch_colours x_toldForms_sketch_darks x_toldForms_sketch_nodes x_toldForms_sketch_fans x_toldForms_sketch_near x_walkers_allParts x_walkers_depths x_walkers_lists x_walkers_ownParts hx0 hxL hI
  obtain ⟨k, hT, hK, hW, hG, hD, hO, hP⟩ := hI
  obtain ⟨hk, hw, ⟨q1, q2, q3, q4, q5, q6, q7, q8, q9, q10, q11, q12, hp⟩, hL, hU⟩ := hK
  subst q1 q2 q3 q4 q5 q6 q7 q8 q9 q10 q11 q12
  have hsz := size_le hk
  have a1 := arg_in hx0 hxL (by omega) (j := 1) (by omega)
  have a2 := arg_in hx0 hxL (by omega) (j := 2) (by omega)
  have a3 := arg_in hx0 hxL (by omega) (j := 3) (by omega)
  have a4 := arg_in hx0 hxL (by omega) (j := 4) (by omega)
  have a5 := arg_in hx0 hxL (by omega) (j := 5) (by omega)
  have o0 := vp_in_nI (n := 0) (N := 1) (by decide) (by decide)
  
  unfold F_law_c3 F_L_told F_law_c3_383
  unfold F_X11_told F_X8_begin F_X8_finish F_X8_finish_13 F_X12_told F_X12_beginsReading F_X12_told_27 F_X12_told_40 F_X12_thrown
  obtain ⟨Bt, N, t1, t2, hX, hM⟩ := tape_get hT
  subst t1 t2
  refine x_readNet hX hsz (fun n D P c n1 n2 hr hc hdk bg pos => ?_) (fun e hr pos cd nd => ?_)
  · have n6 : n ≤ 6 := by omega
    have hfl := frm_lt n (dkM n c) (byM n c)
    refine br2 (by decide) (br3 (by decide) (f_leastOf n6 hc.1 hO.2 (fun ab fo ib is' it le nn od se sl sy cl dk' sn fans near hF => f_numberOf hk hL n1 n6 (frm31 n6) ⟨o0, ?_⟩)))
    have hO : ordOk x_forms_order ∧ ordOk od := ⟨hO.1, hF.2.2.2.2.1⟩
    have hT2 := tape_done (-1) m_tape x_tape_bytes
    refine m_readNet hM hk hw (fun n' D' P' hr' => ?_) (fun e hr' => ?_)
    · rw [hr] at hr'
      have hr' := Except.ok.inj hr'
      have en : n = n' := congrArg Prod.fst hr'
      have eD : D = D' := congrArg (fun x => x.2.1) hr'
      have eP : P = P' := congrArg (fun x => x.2.2) hr'
      subst en eD eP
      refine ⟨c, hc, fun by' bg pr pos hby => br2 (by decide) (br3 (by decide) (f_throws0 (br1 rfl ?_)))⟩
      have hDk : dkM n c = D := ?_
      have hRG : RG n (dkM n c) (byM n c) (nI D) (nI n) by' := ?_
      refine f_laysForm n6 n1 hRG (fun lasts sym first order hLF => f_edgesNow (RG_RN n6 hRG (fun v _ => byM_lt _ _ v)) ⟨n + 1, told_87 hk hU n1 n6 (frm31 n6) (fun to hto => ?_) n 0 m_toldOrder (by omega) (fun x hx => absurd hx (Nat.not_lt_zero _))⟩)
      · obtain ⟨f1, f2, f3⟩ := hLF (ags_ne _ _ _)
        obtain ⟨s1, s2⟩ := hF.2.2.2.2.2.1
        obtain ⟨s3, _⟩ := s2 (ags_ne _ _ _)
        have hD2 : ToldR (nI n) (nI (frm n (dkM n c) (byM n c))) sym (nI (enF (byM n c) n 0 0 / 2)) to nn le sy fo := ⟨n, n6, rfl, hF.2.2.2.1, fun _ => ⟨_, _, hfl, rfl, hF.2.2.1, f1.trans s1.symm, by rw [ed_form n6 hc.1], fun i hi => (hto i hi).trans (f3.2 i hi).1, s3⟩⟩
        exact law_fin rfl (fun _ => updL_in) ⟨rfl, k, hT2, ⟨hk, hw, ⟨rfl, rfl, rfl, rfl, rfl, rfl, rfl, rfl, rfl, rfl, rfl, rfl, hp⟩, hL, hU⟩, hW, hG, hD2, hO, hP⟩
      · rw [hDk]
        exact ⟨rfl, rfl, Nat.lt_of_lt_of_le (rdNet_D hsz hr) (Nat.pow_le_pow_right (by decide) (by omega)), fun v hv => ⟨hby v hv, Nat.lt_of_lt_of_le (byM_lt n c v) (Nat.pow_le_pow_right (by decide) (by omega))⟩⟩
      · apply Nat.eq_of_testBit_eq
        intro i
        rw [dkM_tb]
        by_cases hi : i < n
        · rw [decide_eq_true hi, Bool.true_and]
          exact hc.2.1 i hi
        · rw [decide_eq_false hi, Bool.false_and]
          exact (Nat.testBit_lt_two_pow (Nat.lt_of_lt_of_le (rdNet_D hsz hr) (Nat.pow_le_pow_right (by decide) (by omega)))).symm
    · rw [hr] at hr'
      simp at hr'
  · have hT2 := tape_done (nI e) m_tape x_tape_bytes
    refine br1 rfl (br4 rfl ⟨rfl, ?_⟩)
    refine m_readNet hM hk hw (fun n' D' P' hr' => ?_) (fun e' hr' dk nd pr pos by' => ?_)
    · rw [hr] at hr'
      simp at hr'
    · rw [hr] at hr'
      have ee := Except.error.inj hr'
      subst ee
      exact br1 rfl (br4 rfl (f_throws1 (br2 (by decide) (law_fin rfl (fun e => absurd e (by decide)) ⟨rfl, k, hT2, ⟨hk, hw, ⟨rfl, rfl, rfl, rfl, rfl, rfl, rfl, rfl, rfl, rfl, rfl, rfl, hp⟩, hL, hU⟩, hW, hG, hD, hO, hP⟩))))
