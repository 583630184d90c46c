/-! nets by numbers, numbers of nets -/
theorem lvl_get {k : KD} (hk : KOk k) {n i : Nat} (h1 : 1 ≤ n) (h2 : n ≤ kSz k) (hi : i < (lvl k n).length) : (lvl k n).getD i 0 ∈ CT n (kDk k) ∧ (lvl k n).getD i 0 < 2 ^ LN n ∧ n ≤ (if kDk k then 5 else 6) := by
  have h := lvl_mem hk (getD_mem hi)
  have hs : n ≤ (if kDk k then 5 else 6) := Nat.le_trans h2 hk.2.1
  exact ⟨h.2.1, CT_lt h1 hs h.2.1, hs⟩
theorem f_takes {k : KD} (hk : KOk k) {forms many : Nat → Int32} (hU : LvUp k 7 forms many) {dk nn : Int32} {by0 : Nat → Int32} {n i : Nat} (h1 : 1 ≤ n) (h2 : n ≤ kSz k) (hi : i < (lvl k n).length) {post : Int32 → Int32 → (Nat → Int32) → Prop} (K : ∀ dark nodes by', RG n (dkM n ((lvl k n).getD i 0)) (byM n ((lvl k n).getD i 0)) dark nodes by' → post dark nodes by') : F_X12_takes forms dk nn by0 (nI n) (nI i) post := by
  have hs := size_le hk
  have hl := lvl_len k n (by omega)
  obtain ⟨c1, c2, _⟩ := lvl_get hk h1 h2 hi
  unfold F_X12_takes
  have e1 : (600 : Int32) * nI n + nI i = nI (600 * n + i) := by
    rw [show (600 : Int32) * nI n = nI (600 * n) from ni_mul 600 n, nI_add]
  rw [e1]
  refine ⟨vp_in_nI (by omega) (by decide), ?_⟩
  rw [nI_clamp (by omega), (hU n h1 (by omega)).2 i hi]
  exact f_takesCode (by omega) c2 K
def ixF (L : List Nat) (x : Nat) : Option Nat := if L.idxOf x < L.length then some (L.idxOf x) else none
theorem ix_some {L : List Nat} (hL : L.Pairwise (· < ·)) {x i : Nat} (hi : i < L.length) (e : L.getD i 0 = x) : ixF L x = some i := by
  have hm : x ∈ L := by rw [← e]; exact getD_mem hi
  have h1 : L.idxOf x < L.length := List.idxOf_lt_length_of_mem hm
  unfold ixF
  rw [if_pos h1]
  congr 1
  have h2 : L.getD (L.idxOf x) 0 = x := by
    rw [List.getD_eq_getElem?_getD, List.getElem?_eq_getElem h1]
    exact List.getElem_idxOf h1
  have hd : L.Nodup := hL.imp (fun h => Nat.ne_of_lt h)
  exact getD_inj hd h1 hi (by rw [h2, e])
theorem ix_none {L : List Nat} {x : Nat} (h : ∀ i, i < L.length → L.getD i 0 ≠ x) : ixF L x = none := by
  unfold ixF
  rw [if_neg]
  intro h1
  refine h _ h1 ?_
  rw [List.getD_eq_getElem?_getD, List.getElem?_eq_getElem h1]
  exact List.getElem_idxOf h1
theorem lvl_lt31 {k : KD} (hk : KOk k) {n i : Nat} (h1 : 1 ≤ n) (h2 : n ≤ 6) (hi : i < (lvl k n).length) : (lvl k n).getD i 0 < 2 ^ 21 := by
  have h := lvl_mem hk (getD_mem hi)
  have := (lvl_get hk h1 h.1 hi).2.1
  exact Nat.lt_of_lt_of_le this (Nat.pow_le_pow_right (by decide) (LN_mono h2))
theorem f_numberOf12 {k : KD} (hk : KOk k) {forms many : Nat → Int32} (hU : LvUp k 7 forms many) {n x : Nat} (h1 : 1 ≤ n) (h2 : n ≤ 6) (hx : x < 2 ^ 31) {post : Int32 → Prop} (K : post (oI (ixF (lvl k n) x))) : F_X12_numberOf forms many (nI n) (nI x) post := by
  have hl := lvl_len k n h2
  obtain ⟨u1, u2⟩ := hU n h1 (by omega)
  unfold F_X12_numberOf
  refine ⟨(lvl k n).length + 1, ?_⟩
  have main : ∀ j i, i + j = (lvl k n).length → (∀ q, q < i → (lvl k n).getD q 0 ≠ x) → F_X12_numberOf_2 forms many post (j + 1) (nI n) (nI x) (nI i) := by
    intro j
    induction j with
    | zero =>
      intro i hi h
      unfold F_X12_numberOf_2
      refine ⟨vp_in_nI (by omega) (by decide), ?_⟩
      rw [nI_clamp (by omega), u1]
      refine br1 (nI_le (by omega) (by omega)) ?_
      rw [ix_none (fun q hq => h q (by omega))] at K
      exact K
    | succ j ih =>
      intro i hi h
      unfold F_X12_numberOf_2
      refine ⟨vp_in_nI (by omega) (by decide), ?_⟩
      have e1 : (600 : Int32) * nI n + nI i = nI (600 * n + i) := by
        rw [show (600 : Int32) * nI n = nI (600 * n) from ni_mul 600 n, nI_add]
      rw [nI_clamp (by omega), u1, e1]
      refine br2 (nI_ge (by omega) (by omega)) ⟨vp_in_nI (by omega) (by decide), ?_⟩
      rw [nI_clamp (by omega), u2 i (by omega)]
      have hc := lvl_lt31 hk h1 h2 (show i < (lvl k n).length by omega)
      refine ⟨fun g => ?_, fun g => ?_⟩
      · rw [nI_1]
        refine ih (i + 1) (by omega) (fun q hq => ?_)
        by_cases e : q = i
        · subst e; exact fun e => g (by rw [e])
        · exact h q (by omega)
      · rw [ix_some (lvl_up k h2) (show i < (lvl k n).length by omega) (ni_inj (by omega) hx g)] at K
        exact K
  exact main _ 0 (by omega) (fun q hq => absurd hq (Nat.not_lt_zero _))
/-- how many are less, in a list that goes up -/
def LB (L : List Nat) (x t : Nat) : Prop := t ≤ L.length ∧ (∀ i, i < t → L.getD i 0 < x) ∧ ∀ i, t ≤ i → i < L.length → x ≤ L.getD i 0
theorem up_get {L : List Nat} (hL : L.Pairwise (· < ·)) {i j : Nat} (hij : i < j) (hj : j < L.length) : L.getD i 0 < L.getD j 0 := by
  rw [List.getD_eq_getElem?_getD, List.getElem?_eq_getElem (show i < L.length by omega), List.getD_eq_getElem?_getD, List.getElem?_eq_getElem hj]
  exact List.pairwise_iff_getElem.mp hL i j (by omega) hj hij
theorem up_le {L : List Nat} (hL : L.Pairwise (· < ·)) {i j : Nat} (hij : i ≤ j) (hj : j < L.length) : L.getD i 0 ≤ L.getD j 0 := by
  rcases Nat.eq_or_lt_of_le hij with rfl | h
  · exact Nat.le_refl _
  · exact Nat.le_of_lt (up_get hL h hj)
theorem f_ahead {k : KD} (hk : KOk k) {total : Int32} {codes firsts : Nat → Int32} (hL : LvX k total codes firsts) {n x : Nat} (h1 : 1 ≤ n) (h2 : n ≤ 6) (hx : x < 2 ^ 31) {post : Int32 → Prop} (K : ∀ t, LB (lvl k n) x t → post (nI t)) : F_X3_ahead total codes firsts (nI n) (nI x) post := by
  have hl := lvl_len k n h2
  have hup := lvl_up k h2
  unfold F_X3_ahead
  refine f_amount hL.2.1 h1 (by omega) (by omega) ⟨33, ?_⟩
  have main : ∀ j h lo hi, h + j = 32 → lo ≤ hi → hi ≤ (lvl k n).length → hi - lo < 2 ^ j → (∀ i, i < lo → (lvl k n).getD i 0 < x) → (∀ i, hi ≤ i → i < (lvl k n).length → x ≤ (lvl k n).getD i 0) → F_X3_ahead_12 total codes firsts post (j + 1) (nI n) (nI x) (nI lo) (nI hi) (nI h) := by
    intro j
    induction j with
    | zero =>
      intro h lo hi hh hlh hhl hb g1 g2
      unfold F_X3_ahead_12 F_X3_ahead_62
      have e : lo = hi := by simp at hb; omega
      subst e
      exact br1 (nI_le (a := 32) (by omega) (by omega)) (K lo ⟨hhl, g1, g2⟩)
    | succ j ih =>
      intro h lo hi hh hlh hhl hb g1 g2
      unfold F_X3_ahead_12 F_X3_ahead_62 F_X3_ahead_56
      refine br2 (nI_ge (b := 32) (by omega) (by decide)) ⟨fun g => ?_, fun g => ?_⟩
      · have e : lo = hi := by have := (nI_leI (by omega) (by omega)).mp g; omega
        subst e
        exact K lo ⟨hhl, g1, g2⟩
      · have g : lo < hi := by
          have : ¬ hi ≤ lo := fun e => g (nI_le e (by omega))
          omega
        have em : (nI lo + nI hi) / 2 = nI ((lo + hi) / 2) := by
          rw [nI_add]
          exact ni_div (b := 2) (by omega) (by decide) (by decide)
        rw [em]
        have hm : (lo + hi) / 2 < (lvl k n).length := by omega
        obtain ⟨c1, c2⟩ := lv_codes hL h1 h2 hm
        have c31 := lvl_lt31 hk h1 h2 hm
        rw [Nat.pow_succ] at hb
        refine f_codeOfI hL.2.1 h1 (by omega) (by omega) c1 c2 ⟨fun g3 => ?_, fun g3 => ?_⟩
        · have g3 := (nI_leI hx (by omega)).mp g3
          rw [nI_1]
          refine ih (h + 1) lo ((lo + hi) / 2) (by omega) (by omega) (by omega) (by omega) g1 (fun i a b => ?_)
          exact Nat.le_trans g3 (up_le hup a b)
        · have g3 : (lvl k n).getD ((lo + hi) / 2) 0 < x := by
            have : ¬ x ≤ (lvl k n).getD ((lo + hi) / 2) 0 := fun e => g3 (nI_le e (by omega))
            omega
          rw [nI_1, nI_1]
          refine ih (h + 1) ((lo + hi) / 2 + 1) hi (by omega) (by omega) hhl (by omega) (fun i a => ?_) g2
          exact Nat.lt_of_le_of_lt (up_le hup (show i ≤ (lo + hi) / 2 by omega) hm) g3
  exact main 32 0 0 _ (by omega) (by omega) (Nat.le_refl _) (by omega) (fun i hi => absurd hi (Nat.not_lt_zero _)) (fun i a b => by omega)
theorem f_numberOf {k : KD} (hk : KOk k) {total : Int32} {codes firsts : Nat → Int32} (hL : LvX k total codes firsts) {n x : Nat} (h1 : 1 ≤ n) (h2 : n ≤ 6) (hx : x < 2 ^ 31) {post : Int32 → Prop} (K : post (oI (ixF (lvl k n) x))) : F_X3_numberOf total codes firsts (nI n) (nI x) post := by
  have hl := lvl_len k n h2
  have hup := lvl_up k h2
  unfold F_X3_numberOf F_X3_numberOf_30 F_X3_numberOf_31
  refine f_ahead hk hL h1 h2 hx (fun t ht => f_amount hL.2.1 h1 (by omega) (by omega) ?_)
  obtain ⟨t1, t2, t3⟩ := ht
  refine ⟨fun g => ?_, fun g => ?_⟩
  · have g := (nI_leI (by omega) (by omega)).mp g
    rw [ix_none (fun i hi => by have := t2 i (by omega); omega)] at K
    exact K
  · have g : t < (lvl k n).length := by
      have : ¬ (lvl k n).length ≤ t := fun e => g (nI_le e (by omega))
      omega
    obtain ⟨c1, c2⟩ := lv_codes hL h1 h2 g
    have c31 := lvl_lt31 hk h1 h2 g
    refine f_codeOfI hL.2.1 h1 (by omega) (by omega) c1 c2 ⟨fun g2 => ?_, fun g2 => ?_⟩
    · rw [ix_none (fun i hi => ?_)] at K
      · exact K
      · intro e
        rcases Nat.lt_trichotomy i t with h | h | h
        · have := t2 i h; omega
        · subst h; exact g2 (by rw [e])
        · have := up_get hup h hi
          have := t3 t (Nat.le_refl _) g
          omega
    · rw [ix_some hup g (ni_inj (by omega) hx g2)] at K
      exact K
theorem lc7 (xs : Nat → Int32) (L : Nat) (hL3 : L ≤ 3072) : LC7 xs L IInv := by
  unfold LC7
  intro x4 m_begin m_dark m_end m_faultAt m_form m_hasImage m_heldDark m_lasts m_nodes m_pairs m_point m_symmetries m_taped m_thrown m_toldEdges m_toldForm m_toldNodes m_toldSymmetries m_writtenMany m_by m_decks m_draft m_firstOrder m_five m_forms m_held m_image m_many m_order m_seen m_tape m_toldOrder m_world m_written o x_hasImage x_cycleSums_edges x_cycleSums_hasDark x_cycleSums_parts x_cycleSums_ways x_decks x_draft_bannedCircles x_draft_endLines x_draft_endsJoined x_draft_fewestEdges x_draft_hasDark x_draft_least x_draft_most x_draft_mostEdges x_draft_patterns x_draft_ruleLines x_draft_size x_draft_unlike x_draft_words x_draft_patternCodes x_draft_patternNodes x_forms_allBits x_forms_firstOrder x_forms_isBeaten x_forms_isStudy x_forms_isTest x_forms_least x_forms_nodes x_forms_order x_forms_seen x_forms_stillEdges x_forms_symmetries x_forms_sketch_colours x_forms_sketch_darks x_forms_sketch_nodes x_forms_sketch_fans x_forms_sketch_near x_keptLevels_total x_keptLevels_codes x_keptLevels_firsts x_keptRules_bannedCircles x_keptRules_endLines x_keptRules_endsJoined x_keptRules_fewestEdges x_keptRules_hasDark x_keptRules_least x_keptRules_most x_keptRules_mostEdges x_keptRules_patterns x_keptRules_ruleLines x_keptRules_size x_keptRules_unlike x_keptRules_words x_keptRules_patternCodes x_keptRules_patternNodes x_keptWalkers_allParts x_keptWalkers_depths x_keptWalkers_lists x_keptWalkers_ownParts x_levels_total x_levels_codes x_levels_firsts x_match_best x_match_code x_match_one_colours x_match_one_darks x_match_one_nodes x_match_one_fans x_match_one_near x_match_two_colours x_match_two_darks x_match_two_nodes x_match_two_fans x_match_two_near x_page_length x_page_bytes x_rules_bannedCircles x_rules_endLines x_rules_endsJoined x_rules_fewestEdges x_rules_hasDark x_rules_least x_rules_most x_rules_mostEdges x_rules_patterns x_rules_ruleLines x_rules_size x_rules_unlike x_rules_words x_rules_patternCodes x_rules_patternNodes x_sketch_colours x_sketch_darks x_sketch_nodes x_sketch_fans x_sketch_near x_tape_begun x_tape_length x_tape_position x_tape_wrong x_tape_bytes x_texts_code x_texts_nodes x_toldForms_allBits x_toldForms_firstOrder x_toldForms_isBeaten x_toldForms_isStudy x_toldForms_isTest x_toldForms_least x_toldForms_nodes x_toldForms_order x_toldForms_seen x_toldForms_stillEdges x_toldForms_symmetries x_toldForms_sketch_colours x_toldForms_sketch_darks x_toldForms_sketch_nodes x_toldForms_sketch_fans x_toldForms_sketch_near x_walkers_allParts x_walkers_depths x_walkers_lists x_walkers_ownParts hx0 hxL hI
  obtain ⟨k, hT, hK, hW, hG, hD, hO, hP⟩ := hI
  obtain ⟨hk, hw, ⟨q1, q2, q3, q4, q5, q6, q7, q8, q9, q10, q11, q12, hp⟩, hL, hU⟩ := hK
  subst q1 q2 q3 q4 q5 q6 q7 q8 q9 q10 q11 q12
  have hsz := size_le hk
  have a1 := arg_in hx0 hxL (by omega) (j := 1) (by omega)
  have a2 := arg_in hx0 hxL (by omega) (j := 2) (by omega)
  have a3 := arg_in hx0 hxL (by omega) (j := 3) (by omega)
  have a4 := arg_in hx0 hxL (by omega) (j := 4) (by omega)
  have a5 := arg_in hx0 hxL (by omega) (j := 5) (by omega)
  have o0 := vp_in_nI (n := 0) (N := 1) (by decide) (by decide)
  
  unfold F_law_c7 F_law_c7_625 F_law_c7_631 F_L_joined F_L_joined_20
  refine ⟨a1, a2, a3, a4, ?_⟩
  generalize xs (x4 + 1).toNatClampNeg = p1
  generalize xs (x4 + 2).toNatClampNeg = p2
  generalize xs (x4 + 3).toNatClampNeg = p3
  generalize xs (x4 + 4).toNatClampNeg = p4
  unfold F_X11_joined F_X12_joined F_X12_joined_21 F_X12_thrown
  have bad : (NoNet k p1 p2 ∨ ∃ n i, 1 ≤ n ∧ n ≤ kSz k ∧ p1 = nI n ∧ i < (lvl k n).length ∧ p2 = nI i ∧ (p3 < 0 ∨ ¬ p3 < nI n)) ∨ True := Or.inr trivial
  rcases net_q hk p1 p2 with h | ⟨n, i, h1, h2, rfl, hi, rfl⟩
  · refine x_needNet_n hk hL h ⟨rfl, a1, a2, a3, a4, f_noNode_n hk hw hU (Or.inl h) (br3 (by decide) ⟨by decide, ⟨fun _ => br3 (by decide) ⟨rfl, k, hT, ⟨hk, hw, ⟨rfl, rfl, rfl, rfl, rfl, rfl, rfl, rfl, rfl, rfl, rfl, rfl, hp⟩, hL, hU⟩, hW, hG, hD, hO, hP⟩, fun g => g rfl⟩⟩)⟩
  · have hc := lvl_get hk h1 h2 hi
    have hc31 := lvl_lt31 hk h1 (by omega) hi
    refine x_needNet_y hk hL h1 h2 hi ?_
    rcases node_q n (by omega) p3 with h3 | ⟨a, ha, rfl⟩
    · refine x_needNode_n h3 ⟨rfl, a1, a2, a3, a4, f_noNode_n hk hw hU (Or.inr ⟨n, i, h1, h2, rfl, hi, rfl, h3⟩) (br3 (by decide) ⟨by decide, ⟨fun _ => br3 (by decide) ⟨rfl, k, hT, ⟨hk, hw, ⟨rfl, rfl, rfl, rfl, rfl, rfl, rfl, rfl, rfl, rfl, rfl, rfl, hp⟩, hL, hU⟩, hW, hG, hD, hO, hP⟩, fun g => g rfl⟩⟩)⟩
    · refine x_needNode_y ha (by omega) ?_
      rcases node_q n (by omega) p4 with h4 | ⟨b, hb, rfl⟩
      · refine x_needNode_n h4 ⟨rfl, a1, a2, a3, a4, f_noNode_y hk hw hU h1 h2 hi ha (br4 rfl (f_noNode_n hk hw hU (Or.inr ⟨n, i, h1, h2, rfl, hi, rfl, h4⟩) (br2 (by decide) ⟨by decide, ⟨fun _ => br3 (by decide) ⟨rfl, k, hT, ⟨hk, hw, ⟨rfl, rfl, rfl, rfl, rfl, rfl, rfl, rfl, rfl, rfl, rfl, rfl, hp⟩, hL, hU⟩, hW, hG, hD, hO, hP⟩, fun g => g rfl⟩⟩)))⟩
      · refine x_needNode_y hb (by omega) (f_areJoined (by omega) (by omega) ha hb ⟨bb1 _, ?_⟩)
        have eb : egb n ((lvl k n).getD i 0) a b = (byM n ((lvl k n).getD i 0) a).testBit b := by rw [byM_tb, decide_eq_true hb, Bool.true_and]
        rw [eb]
        cases e : (byM n ((lvl k n).getD i 0) a).testBit b with
        | false =>
          refine br1 rfl ⟨o0, a1, a2, a3, a4, ?_⟩
          refine f_noNode_y (th := m_thrown) hk hw hU h1 h2 hi ha (br4 rfl (f_noNode_y hk hw hU h1 h2 hi hb (br1 rfl (f_takes (dk := m_dark) (nn := m_nodes) (by0 := m_by) hk hU h1 h2 hi (fun dark nodes by' hG2 => ⟨v6 (n := n) (by omega) ha, ?_⟩)))))
          have hR := RG_RN (by omega) hG2 (fun v _ => byM_lt n _ v)
          have b64 := RN_lt hR ha
          rw [RN_at hR ha]
          exact f_holds (by omega) (by omega) ⟨bb1 _, ⟨fun _ => br4 rfl ⟨o0, by
            rw [bnz, lg_cmp_eq, lg_cmp_eq, updL_in, e]
            exact ⟨fun _ => ⟨fun _ => ⟨rfl, k, hT, ⟨hk, hw, ⟨rfl, rfl, rfl, rfl, rfl, rfl, rfl, rfl, rfl, rfl, rfl, rfl, hp⟩, hL, hU⟩, hW, hG, hD, hO, hP⟩, fun g => g rfl⟩, fun g => absurd rfl g⟩⟩, fun g => g rfl⟩⟩
        | true =>
          refine br2 (by decide) ⟨o0, a1, a2, a3, a4, ?_⟩
          refine f_noNode_y (th := m_thrown) hk hw hU h1 h2 hi ha (br4 rfl (f_noNode_y hk hw hU h1 h2 hi hb (br1 rfl (f_takes (dk := m_dark) (nn := m_nodes) (by0 := m_by) hk hU h1 h2 hi (fun dark nodes by' hG2 => ⟨v6 (n := n) (by omega) ha, ?_⟩)))))
          have hR := RG_RN (by omega) hG2 (fun v _ => byM_lt n _ v)
          have b64 := RN_lt hR ha
          rw [RN_at hR ha]
          exact f_holds (by omega) (by omega) ⟨bb1 _, ⟨fun _ => br4 rfl ⟨o0, by
            rw [bnz, lg_cmp_eq, lg_cmp_eq, updL_in, e]
            exact ⟨fun g => absurd g (by decide), fun _ => ⟨fun _ => ⟨rfl, k, hT, ⟨hk, hw, ⟨rfl, rfl, rfl, rfl, rfl, rfl, rfl, rfl, rfl, rfl, rfl, rfl, hp⟩, hL, hU⟩, hW, hG, hD, hO, hP⟩, fun g => g rfl⟩⟩⟩, fun g => g rfl⟩⟩
