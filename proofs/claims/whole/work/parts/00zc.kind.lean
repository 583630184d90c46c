/-! the kind; which nets keep its rules -/
abbrev KD : Type := Nat × Bool × Nat × Nat × Bool × List (Nat × Nat) × Bool × Nat × Nat × Nat × Nat × Nat
def kSz (k : KD) : Nat := k.1
def kDk (k : KD) : Bool := k.2.1
def kMo (k : KD) : Nat := k.2.2.1
def kBc (k : KD) : Nat := k.2.2.2.1
def kUl (k : KD) : Bool := k.2.2.2.2.1
def kPs (k : KD) : List (Nat × Nat) := k.2.2.2.2.2.1
def kEj (k : KD) : Bool := k.2.2.2.2.2.2.1
def kLo (k : KD) : Nat := k.2.2.2.2.2.2.2.1
def kHi (k : KD) : Nat := k.2.2.2.2.2.2.2.2.1
def kLe (k : KD) : Nat := k.2.2.2.2.2.2.2.2.2.1
def kRl (k : KD) : Nat := k.2.2.2.2.2.2.2.2.2.2.1
def kEl (k : KD) : Nat := k.2.2.2.2.2.2.2.2.2.2.2
def KOk (k : KD) : Prop := 1 ≤ kSz k ∧ kSz k ≤ (if kDk k then 5 else 6) ∧ kMo k ≤ 5 ∧ (kBc k < 128 ∧ kBc k % 8 = 0) ∧ (kPs k).length ≤ 2 ∧ (∀ x ∈ kPs k, 2 ≤ x.1 ∧ x.1 ≤ 4 ∧ x.2 < 2 ^ (x.1 * (x.1 - 1) / 2)) ∧ kLo k ≤ 15 ∧ kHi k ≤ 15 ∧ kLe k ≤ 5 ∧ kRl k ≤ 14 ∧ kEl k ≤ 14
/-- the kind in the reference's row -/
def WR (k : KD) (w : Nat → Int32) : Prop := w 0 = nI (kSz k) ∧ w 1 = nI (kDk k).toNat ∧ ((w 2 = -1 ∧ kMo k = 5) ∨ w 2 = nI (kMo k)) ∧ (∃ (fr : Nat) (ev fo : Bool), fr < 128 ∧ w 3 = nI fr ∧ w 4 = nI ev.toNat ∧ w 5 = nI fo.toNat ∧ kBc k = (fr ||| (if ev then 40 else 0)) ||| (if fo then 120 else 0)) ∧ w 6 = nI (kUl k).toNat ∧ w 7 = nI (kPs k).length ∧ (∀ i, i < (kPs k).length → w (8 + 2 * i) = nI ((kPs k).getD i (0, 0)).1 ∧ w (8 + 2 * i + 1) = nI ((kPs k).getD i (0, 0)).2) ∧ w 12 = nI (kEj k).toNat ∧ ((w 13 = -1 ∧ kLo k = 0 ∧ kHi k = 15) ∨ (w 13 = nI (kLo k) ∧ w 14 = nI (kHi k))) ∧ ((w 15 = -1 ∧ kLe k = 0) ∨ w 15 = nI (kLe k)) ∧ w 16 = nI (kRl k) ∧ w 17 = nI (kEl k)
/-- the kind in the class's rules -/
def XR (k : KD) (bc el ej fe hd le mo me pa rl sz ul : Int32) (pc pn : Nat → Int32) : Prop := bc = nI (kBc k) ∧ el = nI (kEl k) ∧ ej = nI (kEj k).toNat ∧ fe = nI (kLo k) ∧ hd = nI (kDk k).toNat ∧ le = nI (kLe k) ∧ mo = nI (kMo k) ∧ me = nI (kHi k) ∧ pa = nI (kPs k).length ∧ rl = nI (kRl k) ∧ sz = nI (kSz k) ∧ ul = nI (kUl k).toNat ∧ ∀ i, i < (kPs k).length → pc i = nI (frm ((kPs k).getD i (0, 0)).1 0 (pB ((kPs k).getD i (0, 0)).1 ((kPs k).getD i (0, 0)).2)) ∧ pn i = nI ((kPs k).getD i (0, 0)).1
def keeps (k : KD) (n c : Nat) : Bool := decide (mxF (byM n c) n 0 0 ≤ kMo k) && (decide (cirF n (byM n c) &&& kBc k = 0) && ((!kUl k || !jocF (dkM n c) (byM n c) n 0) && (kPs k).all (fun x => !hasP n (byM n c) x.1 x.2)))
theorem all_step {L : List Nat} {p : Nat → Bool} {i k j : Nat} (h1 : ((L.drop i).take k).all p = true) (hj : j = i + k) (h2 : (L.drop j).all p = true) : (L.drop i).all p = true := by
  subst hj
  rw [List.all_eq_true] at *
  intro x hx
  rw [← List.take_append_drop k (L.drop i), List.mem_append, List.drop_drop] at hx
  rcases hx with hx | hx
  · exact h1 x hx
  · exact h2 x hx
theorem all_end {L : List Nat} {p : Nat → Bool} {i : Nat} (h : L.length ≤ i) : (L.drop i).all p = true := by rw [List.drop_eq_nil_of_le h]; rfl
theorem chk_L6 : ctL6.all (fun c => chk 6 false c && chO 6 c) = true := all_step (i := 0) (k := 12) (j := 12) chk_L6_0 rfl (all_step (i := 12) (k := 12) (j := 24) chk_L6_1 rfl (all_step (i := 24) (k := 12) (j := 36) chk_L6_2 rfl (all_step (i := 36) (k := 12) (j := 48) chk_L6_3 rfl (all_step (i := 48) (k := 12) (j := 60) chk_L6_4 rfl (all_step (i := 60) (k := 12) (j := 72) chk_L6_5 rfl (all_step (i := 72) (k := 12) (j := 84) chk_L6_6 rfl (all_step (i := 84) (k := 12) (j := 96) chk_L6_7 rfl (all_step (i := 96) (k := 12) (j := 108) chk_L6_8 rfl (all_step (i := 108) (k := 12) (j := 120) chk_L6_9 rfl (all_step (i := 120) (k := 12) (j := 132) chk_L6_10 rfl (all_step (i := 132) (k := 12) (j := 144) chk_L6_11 rfl (all_step (i := 144) (k := 12) (j := 156) chk_L6_12 rfl (all_end (i := 156) (by decide +kernel))))))))))))))
theorem chk_D5 : ctD5.all (fun c => chk 5 true c && chO 5 c) = true := all_step (i := 0) (k := 34) (j := 34) chk_D5_0 rfl (all_step (i := 34) (k := 34) (j := 68) chk_D5_1 rfl (all_step (i := 68) (k := 34) (j := 102) chk_D5_2 rfl (all_step (i := 102) (k := 34) (j := 136) chk_D5_3 rfl (all_step (i := 136) (k := 34) (j := 170) chk_D5_4 rfl (all_step (i := 170) (k := 34) (j := 204) chk_D5_5 rfl (all_step (i := 204) (k := 34) (j := 238) chk_D5_6 rfl (all_step (i := 238) (k := 34) (j := 272) chk_D5_7 rfl (all_step (i := 272) (k := 34) (j := 306) chk_D5_8 rfl (all_step (i := 306) (k := 34) (j := 340) chk_D5_9 rfl (all_step (i := 340) (k := 34) (j := 374) chk_D5_10 rfl (all_step (i := 374) (k := 34) (j := 408) chk_D5_11 rfl (all_step (i := 408) (k := 34) (j := 442) chk_D5_12 rfl (all_step (i := 442) (k := 34) (j := 476) chk_D5_13 rfl (all_step (i := 476) (k := 34) (j := 510) chk_D5_14 rfl (all_step (i := 510) (k := 34) (j := 544) chk_D5_15 rfl (all_end (i := 544) (by decide +kernel)))))))))))))))))
theorem deg_le5 {n c v : Nat} (hn : n ≤ 6) (hv : v < n) : popc (byM n c v) 24 ≤ 5 := by
  have h : ∀ k, k < 6 → ∀ x, x < 64 → x.testBit k = false → popc x 24 ≤ 5 := by decide +kernel
  exact h v (by omega) _ (lt64 hn (byM_lt n c v)) ((gb_byM n c).2.1 v hv)
theorem CT_chk {n c : Nat} {dk : Bool} (h1 : 1 ≤ n) (h2 : n ≤ (if dk then 5 else 6)) (hc : c ∈ CT n dk) : chk n dk c = true ∧ chO n c = true := by
  have g : (CT n dk).all (fun c => chk n dk c && chO n c) = true := by
    cases dk with
    | true =>
      have h2 : n ≤ 5 := h2
      match n, h1, h2 with
      | 1, _, _ => exact chk_D1
      | 2, _, _ => exact chk_D2
      | 3, _, _ => exact chk_D3
      | 4, _, _ => exact chk_D4
      | 5, _, _ => exact chk_D5
    | false =>
      have h2 : n ≤ 6 := h2
      match n, h1, h2 with
      | 1, _, _ => exact chk_L1
      | 2, _, _ => exact chk_L2
      | 3, _, _ => exact chk_L3
      | 4, _, _ => exact chk_L4
      | 5, _, _ => exact chk_L5
      | 6, _, _ => exact chk_L6
  have := List.all_eq_true.mp g c hc
  rwa [Bool.and_eq_true] at this
/-- what the checks say, as propositions -/
theorem CT_facts {n c : Nat} {dk : Bool} (h1 : 1 ≤ n) (h2 : n ≤ (if dk then 5 else 6)) (hc : c ∈ CT n dk) :
    cirF n (byM n c) < 128 ∧ (∀ k, 3 ≤ k → k ≤ 6 → hcF n (byM n c) k = (cirF n (byM n c)).testBit k) ∧ auO n (dkM n c) (byM n c) n 0 true = !jocF (dkM n c) (byM n c) n 0 ∧
    pnF n (byM n c) n 0 0 = some (pcsF n (byM n c) n).1 ∧ wtF n (byM n c) n 0 0 = some (wdF n (byM n c) n 0 0) ∧ (lwF (cirF n (byM n c)) 31 0).getD 0 = scF n (byM n c) (n - 2) 3 ∧ popc (c &&& aeM n) 24 = enF (byM n c) n 0 0 / 2 ∧
    c < 2 ^ LN n ∧ frm n (dkM n c) (byM n c) = c ∧ (dk = false → dkM n c = 0) ∧
    (2 ≤ n → c / 2 ^ n ∈ CT (n - 1) dk ∧ mxF (byM (n - 1) (c / 2 ^ n)) (n - 1) 0 0 ≤ mxF (byM n c) n 0 0 ∧ cirF (n - 1) (byM (n - 1) (c / 2 ^ n)) &&& cirF n (byM n c) = cirF (n - 1) (byM (n - 1) (c / 2 ^ n)) ∧ (jocF (dkM (n - 1) (c / 2 ^ n)) (byM (n - 1) (c / 2 ^ n)) (n - 1) 0 = true → jocF (dkM n c) (byM n c) n 0 = true)) := by
  have hn : n ≤ 6 := by cases dk <;> simp at h2 <;> omega
  have h := (CT_chk h1 h2 hc).1
  unfold chk at h
  simp only [Bool.and_eq_true, decide_eq_true_eq, beq_iff_eq, List.all_eq_true, Bool.or_eq_true, List.contains_iff_mem, Nat.shiftRight_eq_div_pow, Bool.not_eq_true'] at h
  obtain ⟨⟨a1, a2, a3⟩, ⟨b1, b2, b3, b4⟩, c1, c2, c3, c4⟩ := h
  refine ⟨a1, fun k hk hk6 => a2 k ?_, a3, b1, b2, b3, b4, c1, by rw [frm_mnC hn]; exact c2, fun h => ?_, fun h => ?_⟩
  · rw [List.mem_range']; exact ⟨k - 3, by omega, by omega⟩
  · rcases c3 with c3 | c3
    · rw [h] at c3; simp at c3
    · exact c3
  · rcases c4 with c4 | ⟨d1, d2, d3, d4⟩
    · omega
    · refine ⟨d1, d2, d3, fun g => ?_⟩
      rcases d4 with d4 | d4
      · rw [g] at d4; simp at d4
      · exact d4
/-! the reference -/
theorem wc (n : Nat) (h : n < 2 ^ 31) : (nI n).toNatClampNeg = n := nI_clamp h
theorem bnn {b : Bool} (h : ¬ nI b.toNat = 0) : b = true := by
  cases b with
  | true => rfl
  | false => exact absurd rfl h
theorem b1n {b : Bool} : nI b.toNat = 1 ↔ b = true := by cases b <;> decide
theorem f_isDarkKind {k : KD} {w : Nat → Int32} (hw : WR k w) {post : Int32 → Prop} (K : post (nI (kDk k).toNat)) : F_X12_isDarkKind w post := by
  unfold F_X12_isDarkKind F_X12_isDarkKind_15
  refine ⟨vp_in_nI (n := 1) (by decide) (by decide), ?_⟩
  have e : w (1 : Int32).toNatClampNeg = nI (kDk k).toNat := hw.2.1
  rw [e]
  refine ⟨fun g => ⟨by decide, ?_⟩, fun g => ⟨by decide, ?_⟩⟩
  · have : kDk k = false := by
      cases h : kDk k with
      | false => rfl
      | true => rw [h] at g; exact absurd rfl g
    rw [this] at K; exact K
  · rw [b1n] at g
    rw [g] at K; exact K
def bcAll (n : Nat) (B : Nat → Nat) (bc : Nat) : Nat → Nat → Bool
  | 0, _ => true
  | j + 1, k => !(bc.testBit k && hcF n B k) && bcAll n B bc j (k + 1)
theorem bc_tb {fr k : Nat} {ev fo : Bool} (hk : 3 ≤ k) (hk6 : k ≤ 6) : ((fr ||| (if ev then 40 else 0)) ||| (if fo then 120 else 0)).testBit k = (fr.testBit k || (fo || (ev && decide (k % 2 = 1)))) := by
  rw [Nat.testBit_or, Nat.testBit_or]
  have h : ∀ k, k ≤ 6 → 3 ≤ k → (40 : Nat).testBit k = decide (k % 2 = 1) ∧ (120 : Nat).testBit k = true := by decide
  obtain ⟨h1, h2⟩ := h k hk6 hk
  cases ev <;> cases fo <;> simp [h1, h2]
theorem kr_44 {n : Nat} {B : Nat → Nat} {dark : Int32} {by' w : Nat → Int32} (hR : RN n B by') (h1 : 1 ≤ n) {fr bc : Nat} {ev fo : Bool} (hfr : fr < 128) (w3 : w 3 = nI fr) (w4 : w 4 = nI ev.toNat) (w5 : w 5 = nI fo.toNat) (hbc : bc = (fr ||| (if ev then 40 else 0)) ||| (if fo then 120 else 0)) {post : Int32 → Prop} : ∀ j k, k + j = 7 → 3 ≤ k → (bcAll n B bc j k = true → F_X12_keepsRules_44 dark (nI n) by' w post 1 (nI 7)) → (bcAll n B bc j k = false → post 0) → F_X12_keepsRules_44 dark (nI n) by' w post (j + 1) (nI k)
  | 0, k, hk, _, h, _ => by
    have : k = 7 := by omega
    subst this
    exact h rfl
  | j + 1, k, hk, hk3, h, h0 => by
    have hn := hR.1
    unfold F_X12_keepsRules_44 F_X12_keepsRules_90 F_X12_keepsRules_94
    refine br2 (nI_nlt (a := 6) (b := k) (by omega) (by decide)) ⟨vp_in_nI (n := 3) (by decide) (by decide), ?_⟩
    have e3 : w (3 : Int32).toNatClampNeg = nI fr := w3
    have e4 : w (4 : Int32).toNatClampNeg = nI ev.toNat := w4
    have e5 : w (5 : Int32).toNatClampNeg = nI fo.toNat := w5
    rw [e3, e4, e5]
    rw [bcAll] at h h0
    have r95 : ∀ s0 : Bool, bc.testBit k = s0 → F_X12_keepsRules_95 dark (nI n) by' w post (F_X12_keepsRules_44 dark (nI n) by' w post (j + 1)) (nI k) (nI s0.toNat) := by
      intro s0 hs
      have nxt : (bc.testBit k && hcF n B k) = false → F_X12_keepsRules_44 dark (nI n) by' w post (j + 1) (nI (k + 1)) := by
        intro e
        rw [e] at h h0
        simp only [Bool.not_false, Bool.true_and] at h h0
        exact kr_44 hR h1 hfr w3 w4 w5 hbc j (k + 1) (by omega) (by omega) h h0
      unfold F_X12_keepsRules_95 F_X12_keepsRules_110
      refine ⟨fun g => ?_, fun g => f_hasCircle hR h1 (by omega) (by omega) ⟨fun g2 => ?_, fun g2 => ⟨by decide, ?_⟩⟩⟩
      · rw [bnz] at g
        rw [nI_1]
        exact nxt (by rw [hs, g]; rfl)
      · rw [bnz] at g2
        rw [nI_1]
        exact nxt (by rw [g2]; simp)
      · have e1 := bnn g
        have e2 := bnn g2
        subst e1
        rw [hs, e2] at h0
        exact h0 rfl
    have hb := bc_tb (fr := fr) (ev := ev) (fo := fo) hk3 (show k ≤ 6 by omega)
    rw [← hbc] at hb
    have ep : nI k - nI k / 2 * 2 = nI (k % 2) := by
      show nI k - nI k / nI 2 * nI 2 = _
      rw [ni_div (by omega) (by decide) (by decide), ni_mul, ni_sub (by omega)]
      congr 1; omega
    refine f_holds (by omega) (by omega) ⟨fun g => ?_, fun g => ⟨vp_in_nI (n := 5) (by decide) (by decide), ⟨fun g2 => ?_, fun g2 => ⟨vp_in_nI (n := 4) (by decide) (by decide), ⟨fun g3 => ?_, fun g3 => ?_⟩⟩⟩⟩⟩
    · have g := bnn g
      exact r95 true (by rw [hb, g]; simp)
    · rw [b1n] at g2
      exact r95 true (by rw [hb, g2]; simp)
    · rw [bnz] at g
      have g2 : fo = false := by cases fo with
        | false => rfl
        | true => exact absurd rfl g2
      have g3 : ev = false := by cases ev with
        | false => rfl
        | true => exact absurd rfl g3
      exact r95 false (by rw [hb, g, g2, g3]; simp)
    · rw [bnz] at g
      have g2 : fo = false := by cases fo with
        | false => rfl
        | true => exact absurd rfl g2
      rw [b1n] at g3
      rw [ep]
      refine ⟨fun g4 => ?_, fun g4 => ?_⟩
      · have : k % 2 ≠ 1 := fun e => g4 (by rw [e]; rfl)
        exact r95 false (by rw [hb, g, g2, g3]; simp [this])
      · have : k % 2 = 1 := ni_inj (b := 1) (by omega) (by decide) g4
        exact r95 true (by rw [hb, g, g2, g3]; simp [this])
def psAll (n : Nat) (B : Nat → Nat) (ps : List (Nat × Nat)) : Bool := ps.all (fun x => !hasP n B x.1 x.2)
theorem kr_138 {k : KD} (hk : KOk k) {n : Nat} {B : Nat → Nat} {dark : Int32} {by' w : Nat → Int32} (hR : RN n B by') (hw : WR k w) {post : Int32 → Prop} (K : post (nI (psAll n B (kPs k)).toNat)) : F_X12_keepsRules_136 dark (nI n) by' w post := by
  unfold F_X12_keepsRules_136
  obtain ⟨_, _, _, _, hl, hps, _⟩ := hk
  obtain ⟨_, _, _, _, _, w7, wp, _⟩ := hw
  have e7 : w (7 : Int32).toNatClampNeg = nI (kPs k).length := w7
  have main : ∀ j i, i + j = (kPs k).length → post (nI (psAll n B ((kPs k).drop i)).toNat) → F_X12_keepsRules_138 dark (nI n) by' w post (j + 1) (nI i) := by
    intro j
    induction j with
    | zero =>
      intro i hi K2
      unfold F_X12_keepsRules_138
      refine ⟨vp_in_nI (n := 7) (by decide) (by decide), ?_⟩
      rw [e7]
      refine br1 (nI_le (by omega) (by omega)) ?_
      rw [List.drop_eq_nil_of_le (by omega)] at K2
      exact K2
    | succ j ih =>
      intro i hi K2
      unfold F_X12_keepsRules_138
      refine ⟨vp_in_nI (n := 7) (by decide) (by decide), ?_⟩
      rw [e7]
      obtain ⟨p1, p2⟩ := wp i (by omega)
      have hx : (kPs k).getD i (0, 0) ∈ kPs k := by
        rw [List.getD_eq_getElem?_getD, List.getElem?_eq_getElem (show i < (kPs k).length by omega)]
        exact List.getElem_mem _
      obtain ⟨q1, q2, q3⟩ := hps _ hx
      have ed : (kPs k).drop i = (kPs k).getD i (0, 0) :: (kPs k).drop (i + 1) := by
        rw [List.getD_eq_getElem?_getD, List.getElem?_eq_getElem (show i < (kPs k).length by omega)]
        exact List.drop_eq_getElem_cons (show i < (kPs k).length by omega)
      rw [ed] at K2
      have q3' : ((kPs k).getD i (0, 0)).2 < 2 ^ 31 := Nat.lt_of_lt_of_le q3 (Nat.pow_le_pow_right (by decide) (by
        have : ∀ m, m ≤ 4 → m * (m - 1) / 2 ≤ 31 := by decide
        exact this _ q2))
      refine br2 (nI_ge (by omega) (by omega)) (f_hasBarred hR (by omega) p1 q2 p2 q3' ⟨fun g => ?_, fun g => ⟨by decide, ?_⟩⟩)
      · rw [bnz] at g
        rw [nI_1]
        refine ih (i + 1) (by omega) ?_
        unfold psAll at K2 ⊢
        rw [List.all_cons, g] at K2
        exact K2
      · have g := bnn g
        unfold psAll at K2
        rw [List.all_cons, g] at K2
        exact K2
  exact ⟨(kPs k).length + 1, main (kPs k).length 0 (by omega) K⟩
theorem RG_RN {n D : Nat} {B : Nat → Nat} {dark nodes : Int32} {by' : Nat → Int32} (hn : n ≤ 6) (h : RG n D B dark nodes by') (hB : ∀ v, v < n → B v < 2 ^ n) : RN n B by' := ⟨hn, fun v hv => ⟨(h.2.2.2 v hv).1, hB v hv⟩⟩
theorem bcAll_iff {n bc c : Nat} (hb : bc < 128) (hb8 : bc % 8 = 0) (hc : cirF n (byM n c) < 128) (hh : ∀ k, 3 ≤ k → k ≤ 6 → hcF n (byM n c) k = (cirF n (byM n c)).testBit k) : bcAll n (byM n c) bc 4 3 = decide (cirF n (byM n c) &&& bc = 0) := by
  have e : bcAll n (byM n c) bc 4 3 = (!(bc.testBit 3 && (cirF n (byM n c)).testBit 3) && (!(bc.testBit 4 && (cirF n (byM n c)).testBit 4) && (!(bc.testBit 5 && (cirF n (byM n c)).testBit 5) && (!(bc.testBit 6 && (cirF n (byM n c)).testBit 6) && true)))) := by
    unfold bcAll bcAll bcAll bcAll bcAll
    rw [hh 3 (by omega) (by omega), hh 4 (by omega) (by omega), hh 5 (by omega) (by omega), hh 6 (by omega) (by omega)]
  rw [e, Bool.eq_iff_iff]
  generalize cirF n (byM n c) = x at hc
  have fin : ∀ b, b < 128 → b % 8 = 0 → ∀ x, x < 128 → ((!(b.testBit 3 && x.testBit 3) && (!(b.testBit 4 && x.testBit 4) && (!(b.testBit 5 && x.testBit 5) && (!(b.testBit 6 && x.testBit 6) && true)))) = true ↔ decide (x &&& b = 0) = true) := by decide +kernel
  exact fin bc hb hb8 x hc
theorem f_keepsRules {k : KD} (hk : KOk k) {n c : Nat} (h1 : 1 ≤ n) (h2 : n ≤ kSz k) (hc : c ∈ CT n (kDk k)) {dark nodes : Int32} {by' w : Nat → Int32} (hG : RG n (dkM n c) (byM n c) dark nodes by') (hw : WR k w) {post : Int32 → Prop} (K : post (nI (keeps k n c).toNat)) : F_X12_keepsRules dark nodes by' w post := by
  have hsz := hk.2.1
  have h6 : n ≤ (if kDk k then 5 else 6) := Nat.le_trans h2 hsz
  have hn : n ≤ 6 := by cases e : kDk k <;> rw [e] at h6 <;> simp at h6 <;> omega
  obtain ⟨f1, f2, f3, _, _, _, _, _, _, f10, _⟩ := CT_facts h1 h6 hc
  have hR := RG_RN hn hG (fun v _ => byM_lt n c v)
  obtain ⟨gd, gn, _, _⟩ := hG
  subst gd gn
  obtain ⟨w0, w1, w2, ⟨fr, ev, fo, wfr, w3, w4, w5, wbc⟩, w6, w7, wp, _⟩ := hw
  have hw : WR k w := ⟨w0, w1, w2, ⟨fr, ev, fo, wfr, w3, w4, w5, wbc⟩, w6, w7, wp, by assumption⟩
  have hmx : mxF (byM n c) n 0 0 < 2 ^ 31 := by
    have g : ∀ j k a, a < 100 → mxF (byM n c) j k a < 100 := by
      intro j
      induction j with
      | zero => intro k a h; exact h
      | succ j ih => intro k a h; rw [mxF]; refine ih _ _ ?_; have := popc_le (byM n c k) 24; omega
    have := g n 0 0 (by omega)
    omega
  have hmo := hk.2.2.1
  unfold keeps at K
  have e2 : w (2 : Int32).toNatClampNeg = w 2 := rfl
  have e6 : w (6 : Int32).toNatClampNeg = nI (kUl k).toNat := w6
  have deg5 : mxF (byM n c) n 0 0 ≤ 5 → True := fun _ => trivial
  have fin : F_X12_keepsRules_44 (nI (dkM n c)) (nI n) by' w post 1 (nI 7) ∨ True := Or.inr trivial
  have tail : mxF (byM n c) n 0 0 ≤ kMo k → F_X12_keepsRules_42 (nI (dkM n c)) (nI n) by' w post := by
    intro hm
    unfold F_X12_keepsRules_42
    refine ⟨5, kr_44 (bc := kBc k) hR h1 wfr w3 w4 w5 wbc 4 3 (by omega) (by omega) (fun g => ?_) (fun g => ?_)⟩
    · rw [bcAll_iff hk.2.2.2.1.1 hk.2.2.2.1.2 f1 f2, decide_eq_true_eq] at g
      rw [decide_eq_true hm, decide_eq_true g, Bool.true_and, Bool.true_and] at K
      unfold F_X12_keepsRules_44
      refine br1 (show (6 : Int32) < nI 7 by decide) ⟨vp_in_nI (n := 6) (by decide) (by decide), ?_⟩
      rw [e6]
      refine ⟨fun g2 => ?_, fun g2 => f_areUnlike (D := dkM n c) hR (mask_lt _ _) ⟨fun g3 => ?_, fun g3 => ⟨by decide, ?_⟩⟩⟩
      · have g2 : kUl k = false := by
          cases e : kUl k with
          | false => rfl
          | true => rw [e] at g2; exact absurd rfl g2
        rw [g2] at K
        exact kr_138 hk hR hw K
      · have g3 := bnn g3
        rw [f3] at g3
        rw [g3, Bool.or_true, Bool.true_and] at K
        exact kr_138 hk hR hw K
      · rw [bnz, f3] at g3
        rw [b1n] at g2
        rw [g2, g3] at K
        exact K
    · rw [bcAll_iff hk.2.2.2.1.1 hk.2.2.2.1.2 f1 f2] at g
      rw [g, Bool.false_and, Bool.and_false] at K
      exact K
  have mid : F_X12_keepsRules_16 (nI (dkM n c)) (nI n) by' w post := by
    unfold F_X12_keepsRules_16
    refine ⟨vp_in_nI (n := 2) (by decide) (by decide), ?_⟩
    rw [e2]
    refine ⟨fun g => ?_, fun g => ?_⟩
    · refine tail ?_
      rcases w2 with ⟨_, h⟩ | h
      · rw [h]
        have g5 : ∀ j k a, a ≤ 5 → k + j = n → mxF (byM n c) j k a ≤ 5 := by
          intro j
          induction j with
          | zero => intro k a h _; exact h
          | succ j ih =>
            intro k a h hk
            rw [mxF]
            refine ih _ _ ?_ (by omega)
            have hp : popc (byM n c k) 24 ≤ 5 := deg_le5 hn (by omega)
            omega
        exact g5 n 0 0 (by omega) (by omega)
      · rw [h] at g
        have := congrArg Int32.toInt g
        rw [nI_toInt (by omega)] at this
        have e : (-1 : Int32).toInt = -1 := by decide
        rw [e] at this
        omega
    · have h : w 2 = nI (kMo k) := by
        rcases w2 with ⟨h, _⟩ | h
        · exact absurd h g
        · exact h
      rw [h]
      have := f_degree (most := true) hR (post := fun r28 => (vp_in (2 : Int32) 30 ∧ ((r28 ≤ nI (kMo k) → F_X12_keepsRules_42 (nI (dkM n c)) (nI n) by' w post) ∧ (¬ r28 ≤ nI (kMo k) → ((0 : Int32) &&& 1 = 0 ∧ post 0))))) ⟨vp_in_nI (n := 2) (by decide) (by decide), fun g => ?_, fun g => ⟨by decide, ?_⟩⟩
      · exact this
      · exact tail ((nI_leI hmx (by omega)).mp g)
      · have : ¬ mxF (byM n c) n 0 0 ≤ kMo k := fun e => g (nI_le e (by omega))
        rw [decide_eq_false this] at K
        exact K
  unfold F_X12_keepsRules
  refine f_isDarkKind hw ⟨fun g => mid, fun g => br1 ?_ mid⟩
  rw [bnz] at g
  rw [f10 g]; rfl
