theorem popc_and_le (a b : Nat) : ∀ k, popc (a &&& b) k ≤ popc b k
  | 0 => Nat.le_refl _
  | k + 1 => by
    have := popc_and_le a b k
    rw [popc, popc, Nat.testBit_and]
    cases a.testBit k <;> cases b.testBit k <;> simp <;> omega
theorem ae_15 : ∀ n, n ≤ 6 → popc (aeM n) 24 ≤ 15 := by decide +kernel
theorem ed_15 {n c : Nat} (hn : n ≤ 6) : popc (c &&& aeM n) 24 ≤ 15 := Nat.le_trans (popc_and_le _ _ _) (ae_15 n hn)
theorem pc_6 {x : Nat} (hx : x < 64) : popc x 24 ≤ 6 := by
  rw [show (24 : Nat) = 6 + 18 by rfl, popc_big (k := 6) hx]
  exact popc_le x 6
theorem mn_eq {n : Nat} {B : Nat → Nat} (h1 : 1 ≤ n) (hB : ∀ v, v < n → B v < 64) : mnF B n 0 99 = mnF B n 0 6 := by
  obtain ⟨m, rfl⟩ : ∃ m, n = m + 1 := ⟨n - 1, by omega⟩
  have := pc_6 (hB 0 (by omega))
  rw [mnF, mnF, Nat.min_eq_right (by omega), Nat.min_eq_right (by omega)]
theorem mn_le {B : Nat → Nat} : ∀ j k a, mnF B j k a ≤ a
  | 0, k, a => Nat.le_refl _
  | j + 1, k, a => Nat.le_trans (mn_le j (k + 1) _) (Nat.min_le_left _ _)
theorem pcs_le {n : Nat} {B : Nat → Nat} : ∀ k, (pcsF n B k).1 ≤ k
  | 0 => by simp [pcsF]
  | k + 1 => by
    have := pcs_le (n := n) (B := B) k
    rw [pcsF]
    split
    · omega
    · show (pcsF n B k).1 + 1 ≤ k + 1; omega
def ekB (k : KD) (n c : Nat) : Bool := decide (kLo k ≤ popc (c &&& aeM n) 24) && (decide (popc (c &&& aeM n) 24 ≤ kHi k) && (decide (kLe k ≤ mnF (byM n c) n 0 6) && (!kEj k || decide ((pcsF n (byM n c) n).1 ≤ 1))))
theorem f_endsKept {k : KD} (hk : KOk k) {n c : Nat} (h1 : 1 ≤ n) (hn : n ≤ 6) (hc : c < 2 ^ 21) {near : Nat → Int32} (hN : Nr n (byM n c) near) {post : Int32 → Prop} (K : post (nI (ekB k n c).toNat)) : F_X6_endsKept (nI n) near (nI (kEj k).toNat) (nI (kLo k)) (nI (kLe k)) (nI (kHi k)) (nI n) (nI c) post := by
  obtain ⟨_, _, _, _, _, _, l1, l2, l3, _⟩ := hk
  have he := ed_15 (n := n) (c := c) hn
  have hm := mn_le (B := byM n c) n 0 6
  have hp := pcs_le (n := n) (B := byM n c) n
  unfold ekB at K
  unfold F_X6_endsKept F_X6_endsKept_51 F_X6_endsKept_55 F_X6_endsKept_56
  refine f_edges hn (by omega) ?_
  by_cases g1 : popc (c &&& aeM n) 24 < kLo k
  · rw [decide_eq_false (by omega), Bool.false_and] at K
    exact br1 (nI_lt g1 (by omega)) ⟨by decide, K⟩
  · rw [decide_eq_true (by omega), Bool.true_and] at K
    refine br2 (fun e => g1 ((nI_ltI (by omega) (by omega)).mp e)) ?_
    by_cases g2 : kHi k < popc (c &&& aeM n) 24
    · rw [decide_eq_false (by omega), Bool.false_and] at K
      exact br1 (nI_lt g2 (by omega)) ⟨by decide, K⟩
    · rw [decide_eq_true (by omega), Bool.true_and] at K
      refine br2 (fun e => g2 ((nI_ltI (by omega) (by omega)).mp e)) (f_leastNear hN ?_)
      by_cases g3 : mnF (byM n c) n 0 6 < kLe k
      · rw [decide_eq_false (by omega), Bool.false_and] at K
        exact br1 (nI_lt g3 (by omega)) ⟨by decide, K⟩
      · rw [decide_eq_true (by omega), Bool.true_and] at K
        refine br2 (fun e => g3 ((nI_ltI (by omega) (by omega)).mp e)) ?_
        cases e : kEj k with
        | false =>
          rw [e] at K
          exact br1 rfl ⟨by decide, K⟩
        | true =>
          rw [e] at K
          refine br2 (by decide) (f_pieces hN h1 ?_)
          by_cases g4 : 1 < (pcsF n (byM n c) n).1
          · rw [decide_eq_false (by omega)] at K
            exact br1 (nI_lt (a := 1) g4 (by omega)) ⟨by decide, K⟩
          · rw [decide_eq_true (by omega)] at K
            exact br2 (fun e => g4 ((nI_ltI (a := 1) (by omega) (by omega)).mp e)) ⟨by decide, K⟩
theorem f_keepsEnds {k : KD} (hk : KOk k) {w : Nat → Int32} (hw : WR k w) {n c : Nat} {dk : Bool} (h1 : 1 ≤ n) (h2 : n ≤ (if dk then 5 else 6)) (hc : c ∈ CT n dk) {by' : Nat → Int32} (hR : RN n (byM n c) by') {post : Int32 → Prop} (K : post (nI (ekB k n c).toNat)) : F_X12_keepsEnds (nI n) by' w post := by
  have hn : n ≤ 6 := by cases dk <;> simp at h2 <;> omega
  obtain ⟨_, _, _, _, _, _, l1, l2, l3, _⟩ := hk
  obtain ⟨_, _, _, f4, _, _, f7, _⟩ := CT_facts h1 h2 hc
  have he := ed_15 (n := n) (c := c) hn
  have hm := mn_le (B := byM n c) n 0 6
  have hp := pcs_le (n := n) (B := byM n c) n
  obtain ⟨_, _, _, _, _, _, _, w12, w13, w15, _, _⟩ := hw
  have w12' : w (12 : Int32).toNatClampNeg = nI (kEj k).toNat := w12
  have t58 : ∀ P : Bool, (P = false → post 0) → (P = true → post (nI (decide (kLe k ≤ mnF (byM n c) n 0 6)).toNat)) → P = true → F_X12_keepsEnds_58 (nI n) by' w post := by
    intro P _ K2 hP
    have K2 := K2 hP
    unfold F_X12_keepsEnds_58 F_X12_keepsEnds_84 F_X12_keepsEnds_89
    refine ⟨vp_in_nI (n := 15) (by decide) (by decide), ?_⟩
    have w15' : ((w (15 : Int32).toNatClampNeg = -1 ∧ kLe k = 0) ∨ w (15 : Int32).toNatClampNeg = nI (kLe k)) := w15
    have ne : ∀ x : Nat, x < 2 ^ 31 → ¬ nI x = -1 := fun x hx e => by
      have h := nI_toInt hx
      rw [e] at h
      have : (-1 : Int32).toInt = -1 := rfl
      omega
    rcases w15' with ⟨e, e0⟩ | e
    · rw [decide_eq_true (by omega)] at K2
      exact br1 e ⟨by decide, K2⟩
    · refine br2 (by rw [e]; exact ne _ (by omega)) (f_degree (most := false) hR ⟨vp_in_nI (n := 15) (by decide) (by decide), ?_⟩)
      rw [e]
      show (nI (mnF (byM n c) n 0 99) < _ → _) ∧ _
      rw [mn_eq h1 (fun v _ => byM64 hn)]
      by_cases g3 : mnF (byM n c) n 0 6 < kLe k
      · rw [decide_eq_false (by omega)] at K2
        exact br1 (nI_lt g3 (by omega)) ⟨by decide, K2⟩
      · rw [decide_eq_true (by omega)] at K2
        exact br2 (fun e => g3 ((nI_ltI (by omega) (by omega)).mp e)) ⟨by decide, K2⟩
  have t21 : (!kEj k || decide ((pcsF n (byM n c) n).1 ≤ 1)) = true → F_X12_keepsEnds_21 (nI n) by' w post := by
    intro hj
    unfold ekB at K
    rw [hj, Bool.and_true] at K
    unfold F_X12_keepsEnds_21
    refine ⟨vp_in_nI (n := 13) (by decide) (by decide), ?_⟩
    have w13' : ((w (13 : Int32).toNatClampNeg = -1 ∧ kLo k = 0 ∧ kHi k = 15) ∨ (w (13 : Int32).toNatClampNeg = nI (kLo k) ∧ w (14 : Int32).toNatClampNeg = nI (kHi k))) := w13
    have ne : ∀ x : Nat, x < 2 ^ 31 → ¬ nI x = -1 := fun x hx e => by
      have h := nI_toInt hx
      rw [e] at h
      have : (-1 : Int32).toInt = -1 := rfl
      omega
    rcases w13' with ⟨e, e0, e1⟩ | ⟨e, e'⟩
    · rw [decide_eq_true (by omega), decide_eq_true (by omega), Bool.true_and, Bool.true_and] at K
      exact br1 e (t58 true (fun g => by simp at g) (fun _ => K) rfl)
    · refine br2 (by rw [e]; exact ne _ (by omega)) (f_edgesNow hR ⟨vp_in_nI (n := 13) (by decide) (by decide), vp_in_nI (n := 14) (by decide) (by decide), ?_⟩)
      rw [e, e', ← f7]
      by_cases g : kLo k ≤ popc (c &&& aeM n) 24 ∧ popc (c &&& aeM n) 24 ≤ kHi k
      · rw [decide_eq_true g.1, decide_eq_true g.2, Bool.true_and, Bool.true_and] at K
        exact f_in_y g.1 g.2 (by omega) (br3 (by decide) (t58 true (fun g => by simp at g) (fun _ => K) rfl))
      · have ek : (decide (kLo k ≤ popc (c &&& aeM n) 24) && (decide (popc (c &&& aeM n) 24 ≤ kHi k) && decide (kLe k ≤ mnF (byM n c) n 0 6))) = false := by
          by_cases q : kLo k ≤ popc (c &&& aeM n) 24
          · rw [decide_eq_false (show ¬ popc (c &&& aeM n) 24 ≤ kHi k by omega)]; simp
          · rw [decide_eq_false q]; simp
        rw [ek] at K
        refine f_in_n ?_ (br4 rfl ⟨by decide, K⟩)
        by_cases q : kLo k ≤ popc (c &&& aeM n) 24
        · exact Or.inr (nI_lt (by omega) (by omega))
        · exact Or.inl (nI_lt (by omega) (by omega))
  unfold F_X12_keepsEnds
  refine ⟨vp_in_nI (n := 12) (by decide) (by decide), ?_⟩
  rw [w12']
  cases e : kEj k with
  | false =>
    exact br3 (by decide) (t21 (by rw [e]; rfl))
  | true =>
    refine br4 rfl (f_partsNow hR f4 ?_)
    by_cases g4 : (pcsF n (byM n c) n).1 ≤ 1
    · exact br1 (nI_le (b := 1) g4 (by decide)) (t21 (by rw [decide_eq_true g4]; simp))
    · have ek : ekB k n c = false := by unfold ekB; rw [e, decide_eq_false g4]; simp
      rw [ek] at K
      exact br2 (fun g => g4 ((nI_leI (b := 1) (by omega) (by decide)).mp g)) ⟨by decide, K⟩
