def GBad (k : KD) (n : Nat) (p3 p4 : Int32) : Prop := p3 < 0 ∨ (∃ j, j < 2 ^ 31 ∧ p3 = nI j ∧ 2 ^ n ≤ j) ∨ (∃ j, j < 2 ^ n ∧ p3 = nI j ∧ p4 ≠ 0 ∧ kDk k = false)
theorem grown_q (k : KD) (n : Nat) (p3 p4 : Int32) : GBad k n p3 p4 ∨ ∃ s, s < 2 ^ n ∧ p3 = nI s ∧ (p4 = 0 ∨ kDk k = true) := by
  by_cases g : p3 < 0
  · exact Or.inl (Or.inl g)
  · obtain ⟨j, hj, rfl⟩ := nI_of g
    rcases Nat.lt_or_ge j (2 ^ n) with h | h
    · by_cases e : p4 = 0
      · exact Or.inr ⟨j, h, rfl, Or.inl e⟩
      · cases e2 : kDk k with
        | true => exact Or.inr ⟨j, h, rfl, Or.inr rfl⟩
        | false => exact Or.inl (Or.inr (Or.inr ⟨j, h, rfl, e, e2⟩))
    · exact Or.inl (Or.inr (Or.inl ⟨j, hj, rfl, h⟩))
theorem p2n {n : Nat} (hn : n ≤ 6) : 2 ^ n ≤ 64 := Nat.pow_le_pow_right (n := 2) (by decide) hn
theorem x_needGrown_bad {k : KD} (hk : KOk k) {total : Int32} {codes firsts : Nat → Int32} (hL : LvX k total codes firsts) {n i : Nat} (h1 : 1 ≤ n) (h2 : n ≤ kSz k) (hi : i < (lvl k n).length) {p3 p4 : Int32} (h : GBad k n p3 p4) {post : Int32 → Prop} {postx : String → Prop} (K : postx "java/lang/IllegalArgumentException") : F_X11_needGrown total codes firsts (nI (kDk k).toNat) (nI (kSz k)) (nI n) (nI i) p3 p4 post postx := by
  have hsz := size_le hk
  have hp := p2n (show n ≤ 6 by omega)
  unfold F_X11_needGrown F_X11_needGrown_19
  refine x_needNet_y hk hL h1 h2 hi ?_
  rcases h with h | ⟨j, hj, rfl, h⟩ | ⟨j, hj, rfl, h3, h4⟩
  · exact br1 h K
  · refine br2 (nlt0 hj) ?_
    rw [ni_1shl (by omega)]
    exact br2 (fun e => absurd ((nI_ltI hj (by omega)).mp e) (by omega)) K
  · refine br2 (nlt0 (by omega)) ?_
    rw [ni_1shl (by omega)]
    exact br1 (nI_lt hj (by omega)) (br2 h3 (br4 (by rw [h4]; rfl) K))
theorem x_needGrown_ok {k : KD} (hk : KOk k) {total : Int32} {codes firsts : Nat → Int32} (hL : LvX k total codes firsts) {n i s : Nat} (h1 : 1 ≤ n) (h2 : n ≤ kSz k) (hi : i < (lvl k n).length) (hs : s < 2 ^ n) {p4 : Int32} (h4 : p4 = 0 ∨ kDk k = true) {post : Int32 → Prop} {postx : String → Prop} (K1 : n = kSz k → postx "java/lang/IllegalStateException") (K2 : n < kSz k → post (nI (cod (grD n (dkM n ((lvl k n).getD i 0)) (decide (p4 ≠ 0))) (grB n (byM n ((lvl k n).getD i 0)) s) (List.range (n + 1))))) : F_X11_needGrown total codes firsts (nI (kDk k).toNat) (nI (kSz k)) (nI n) (nI i) (nI s) p4 post postx := by
  have hsz := size_le hk
  have hp := p2n (show n ≤ 6 by omega)
  have X : F_X11_needGrown_56 total codes firsts (nI (kDk k).toNat) (nI (kSz k)) post postx (nI n) (nI s) p4 (nI ((lvl k n).getD i 0)) := by
    unfold F_X11_needGrown_56
    by_cases e : n = kSz k
    · exact br4 (by rw [e]) (K1 e)
    · exact br3 (fun g => e (ni_inj (by omega) (by omega) g)) (f_grow (by omega) (lvl_get hk h1 h2 hi).2.1 hs (K2 (by omega)))
  unfold F_X11_needGrown
  refine x_needNet_y hk hL h1 h2 hi (br2 (nlt0 (by omega)) ?_)
  rw [ni_1shl (by omega)]
  refine br1 (nI_lt hs (by omega)) ?_
  by_cases e : p4 = 0
  · exact br1 e X
  · rcases h4 with h4 | h4
    · exact absurd h4 e
    · exact br2 e (br3 (by rw [h4]; decide) X)
theorem f_noGrown_bad {k : KD} (hk : KOk k) {w forms many : Nat → Int32} (hw : WR k w) (hU : LvUp k 7 forms many) {dk nn th : Int32} {by0 : Nat → Int32} {n i : Nat} (h1 : 1 ≤ n) (h2 : n ≤ kSz k) (hi : i < (lvl k n).length) {p3 p4 : Int32} (h : GBad k n p3 p4) {post : Int32 → Int32 → Int32 → Int32 → (Nat → Int32) → Prop} (K : post 1 dk nn 2 by0) : F_X12_noGrown forms many w dk nn th by0 (nI n) (nI i) p3 p4 post := by
  have hsz := size_le hk
  have hp := p2n (show n ≤ 6 by omega)
  have X : F_X12_noGrown_32 forms many w post (fun x1 x2 x3 x4 s1 d n t b => F_X12_noGrown_37 forms many w post (fun d n t b => F_X12_noGrown_67 forms many w post d n t b) x1 x2 x3 x4 s1 d n t b) (nI n) (nI i) p3 p4 dk nn 0 by0 := by
    unfold F_X12_noGrown_32 F_X12_noGrown_37 F_X12_noGrown_67
    exact f_throws1 (br3 (by decide) K)
  unfold F_X12_noGrown
  refine f_noNet_y hk hw hU h1 h2 hi (br4 rfl ?_)
  rcases h with h | ⟨j, hj, rfl, h⟩ | ⟨j, hj, rfl, h3, h4⟩
  · exact br1 h X
  · refine br2 (nlt0 hj) ?_
    rw [ni_shr hj (by omega)]
    have : 0 < j / 2 ^ n := Nat.div_pos h (Nat.pow_pos (by decide))
    exact br3 (fun e => by have := ni_inj (b := 0) (Nat.lt_of_le_of_lt (Nat.div_le_self _ _) hj) (by decide) e; omega) X
  · refine br2 (nlt0 (by omega)) ?_
    rw [ni_shr (by omega) (by omega), Nat.div_eq_of_lt hj]
    exact br4 rfl (br2 h3 (f_isDarkKind hw (br4 (by rw [h4]; rfl) X)))
theorem sm_step : ∀ i, i < 6 → ∀ s, s < 64 → s % 2 ^ (i + 1) = if s.testBit i then s % 2 ^ i ||| 2 ^ i else s % 2 ^ i := by decide +kernel
theorem gr_loop {k : KD} {w forms many : Nat → Int32} {n s D : Nat} {B : Nat → Nat} (h2 : n < 6) (hs : s < 2 ^ n) (hD : D < 64) (hB : ∀ u, u < n → B u < 64) {p4 : Int32} {post : Int32 → Int32 → Int32 → Int32 → (Nat → Int32) → Prop} (K : ∀ d nn b, RG (n + 1) (grD n D (decide (p4 ≠ 0))) (grB n B s) d nn b → post 0 d nn 0 b) : ∀ (j i : Nat) (by' : Nat → Int32), i + j = n → (∀ u, u < n → by' u = nI (B u ||| (decide (u < i) && s.testBit u).toNat * 2 ^ n)) → by' n = nI (s % 2 ^ i) → F_X12_noGrown_92 forms many w post (j + 1) (nI n) (nI s) p4 (nI i) (nI D) (nI (n + 1)) 0 by' := by
  have hp := p2n (show n ≤ 6 by omega)
  have hp5 : 2 ^ n < 64 := Nat.lt_of_le_of_lt (Nat.pow_le_pow_right (n := 2) (by decide) (show n ≤ 5 by omega)) (by decide)
  intro j
  induction j with
  | zero =>
    intro i by' hi g1 g2
    have : i = n := by omega
    subst this
    unfold F_X12_noGrown_92 F_X12_noGrown_137
    refine br1 (nI_le (by omega) (by omega)) ?_
    have hG : RG (i + 1) (grD i D (decide (p4 ≠ 0))) (grB i B s) (nI (grD i D (decide (p4 ≠ 0)))) (nI (i + 1)) by' := by
      refine ⟨rfl, rfl, ?_, fun u hu => ?_⟩
      · unfold grD
        refine Nat.lt_trans (Nat.or_lt_two_pow (n := 6) hD ?_) (by decide)
        cases (decide (p4 ≠ 0)) <;> simp <;> omega
      · unfold grB
        by_cases e : u = i
        · subst e
          rw [if_pos rfl, g2, Nat.mod_eq_of_lt hs]
          exact ⟨rfl, by omega⟩
        · rw [if_neg e, g1 u (by omega), decide_eq_true (show u < i by omega), Bool.true_and]
          refine ⟨rfl, Nat.lt_trans (Nat.or_lt_two_pow (n := 6) (hB u (by omega)) ?_) (by decide)⟩
          cases (s.testBit u) <;> simp <;> omega
    by_cases e : p4 = 0
    · refine br1 e ⟨by decide, ?_⟩
      have := K _ _ _ hG
      have eD : grD i D (decide (p4 ≠ 0)) = D := by unfold grD; simp [e]
      rw [eD] at this
      rw [show nI D ||| (0 : Int32) = nI (D ||| 0) from ni_or D 0, Nat.or_zero]
      exact this
    · refine br2 e ⟨by decide, ?_⟩
      have := K _ _ _ hG
      have eD : grD i D (decide (p4 ≠ 0)) = D ||| 2 ^ i := by unfold grD; simp [e]
      rw [eD] at this
      rw [ni_1shl (by omega), ni_or]
      exact this
  | succ j ih =>
    intro i by' hi g1 g2
    unfold F_X12_noGrown_92 F_X12_noGrown_114
    refine br2 (nI_ge (by omega) (by omega)) (f_holds (by omega) (by omega) ?_)
    have hst := sm_step i (by omega) s (by omega)
    cases e : s.testBit i with
    | false =>
      refine br1 rfl ?_
      rw [nI_1]
      rw [e] at hst
      refine ih (i + 1) by' (by omega) (fun u hu => ?_) (by rw [hst]; exact g2)
      rw [g1 u hu]
      by_cases q : u = i
      · subst q; simp [e]
      · by_cases q2 : u < i
        · rw [decide_eq_true q2, decide_eq_true (show u < i + 1 by omega)]
        · rw [decide_eq_false q2, decide_eq_false (show ¬ u < i + 1 by omega)]
    | true =>
      refine br2 (by decide) (f_ties h2 (by omega) ?_)
      rw [nI_1]
      rw [e] at hst
      refine ih (i + 1) _ (by omega) (fun u hu => ?_) ?_
      · by_cases q : u = i
        · subst q
          rw [upd_in, upd_out (by omega), g1 u hu, ni_or]
          simp [e]
        · rw [upd_out q, upd_out (by omega), g1 u hu]
          by_cases q2 : u < i
          · rw [decide_eq_true q2, decide_eq_true (show u < i + 1 by omega)]
          · rw [decide_eq_false q2, decide_eq_false (show ¬ u < i + 1 by omega)]
      · rw [upd_out (by omega), upd_in, g2, ni_or, hst, if_pos rfl]
theorem f_noGrown_ok {k : KD} (hk : KOk k) {w forms many : Nat → Int32} (hw : WR k w) (hU : LvUp k 7 forms many) {dk nn th : Int32} {by0 : Nat → Int32} {n i s : Nat} (h1 : 1 ≤ n) (h2 : n ≤ kSz k) (hi : i < (lvl k n).length) (hs : s < 2 ^ n) {p4 : Int32} (h4 : p4 = 0 ∨ kDk k = true) {post : Int32 → Int32 → Int32 → Int32 → (Nat → Int32) → Prop} (K1 : n = kSz k → post 1 dk nn 3 by0) (K2 : n < kSz k → ∀ d nn b, RG (n + 1) (grD n (dkM n ((lvl k n).getD i 0)) (decide (p4 ≠ 0))) (grB n (byM n ((lvl k n).getD i 0)) s) d nn b → post 0 d nn 0 b) : F_X12_noGrown forms many w dk nn th by0 (nI n) (nI i) (nI s) p4 post := by
  have hsz := size_le hk
  have hp := p2n (show n ≤ 6 by omega)
  have X : F_X12_noGrown_36 forms many w post (fun x1 x2 x3 x4 s1 d n t b => F_X12_noGrown_37 forms many w post (fun d n t b => F_X12_noGrown_67 forms many w post d n t b) x1 x2 x3 x4 s1 d n t b) (nI n) (nI i) (nI s) p4 dk nn 0 by0 := by
    unfold F_X12_noGrown_36 F_X12_noGrown_37
    refine f_throws0 (br4 rfl ⟨vp_in_nI (n := 0) (by decide) (by decide), ?_⟩)
    rw [w_size hw]
    unfold F_X12_noGrown_60 F_X12_noGrown_67
    by_cases e : n = kSz k
    · exact br4 (by rw [e]) (f_throws1 (br2 (by decide) (K1 e)))
    · refine br3 (fun g => e (ni_inj (by omega) (by omega) g)) (f_throws0 (br1 rfl (f_takes hk hU h1 h2 hi (fun dark nodes by' hG => ⟨vp_in_nI (by omega) (by decide), n + 1, ?_⟩))))
      obtain ⟨rfl, rfl, _, hb⟩ := hG
      rw [nI_clamp (by omega), nI_1]
      refine gr_loop (k := k) (B := byM n ((lvl k n).getD i 0)) (by omega) hs (dkM64 (by omega)) (fun u _ => byM64 (by omega)) (K2 (by omega)) n 0 _ (by omega) (fun u hu => ?_) ?_
      · rw [upd_out (by omega), (hb u hu).1]
        simp
      · rw [upd_in, Nat.pow_zero, Nat.mod_one]; rfl
  unfold F_X12_noGrown
  refine f_noNet_y hk hw hU h1 h2 hi (br4 rfl (br2 (nlt0 (by omega)) ?_))
  rw [ni_shr (by omega) (by omega), Nat.div_eq_of_lt hs]
  refine br4 rfl ?_
  by_cases e : p4 = 0
  · exact br1 e X
  · rcases h4 with h4 | h4
    · exact absurd h4 e
    · exact br2 e (f_isDarkKind hw (br3 (by rw [h4]; decide) X))
theorem x_needGrown_none {k : KD} (hk : KOk k) {total : Int32} {codes firsts : Nat → Int32} (hL : LvX k total codes firsts) {hd p1 p2 p3 p4 : Int32} (h : NoNet k p1 p2) {post : Int32 → Prop} {postx : String → Prop} (K : postx "java/lang/IndexOutOfBoundsException") : F_X11_needGrown total codes firsts hd (nI (kSz k)) p1 p2 p3 p4 post postx := by
  unfold F_X11_needGrown
  exact x_needNet_n hk hL h K
theorem f_noGrown_none {k : KD} (hk : KOk k) {w forms many : Nat → Int32} (hw : WR k w) (hU : LvUp k 7 forms many) {dk nn th p1 p2 p3 p4 : Int32} {by0 : Nat → Int32} (h : NoNet k p1 p2) {post : Int32 → Int32 → Int32 → Int32 → (Nat → Int32) → Prop} (K : post 1 dk nn 1 by0) : F_X12_noGrown forms many w dk nn th by0 p1 p2 p3 p4 post := by
  unfold F_X12_noGrown F_X12_noGrown_67
  exact f_noNet_n hk hw hU h (br3 (by decide) K)
theorem frm31 {n D : Nat} {B : Nat → Nat} (hn : n ≤ 6) : frm n D B < 2 ^ 31 := by
  obtain ⟨q, hq, e⟩ := frm_at (n := n) (D := D) (B := B)
  rw [← e]
  have := cod_lt D B q
  rw [lex_mem_len hq] at this
  have := Nat.lt_of_lt_of_le this (Nat.pow_le_pow_right (by decide) (LN_mono hn))
  have e6 : LN 6 = 21 := rfl
  rw [e6] at this
  exact Nat.lt_trans this (by decide)
theorem gr_net {n c s : Nat} {dk : Bool} (hs : s < 2 ^ n) : cod (grD n (dkM n c) dk) (grB n (byM n c) s) (List.range (n + 1)) < 2 ^ LN (n + 1) ∧ frm (n + 1) (dkM (n + 1) (cod (grD n (dkM n c) dk) (grB n (byM n c) s) (List.range (n + 1)))) (byM (n + 1) (cod (grD n (dkM n c) dk) (grB n (byM n c) s) (List.range (n + 1)))) = frm (n + 1) (grD n (dkM n c) dk) (grB n (byM n c) s) ∧ ags (n + 1) (dkM (n + 1) (cod (grD n (dkM n c) dk) (grB n (byM n c) s) (List.range (n + 1)))) (byM (n + 1) (cod (grD n (dkM n c) dk) (grB n (byM n c) s) (List.range (n + 1)))) = ags (n + 1) (grD n (dkM n c) dk) (grB n (byM n c) s) := by
  refine ⟨?_, frm_cod (gb_gr (gb_byM n c) hs) (grD_lt (mask_lt _ _))⟩
  have := cod_lt (grD n (dkM n c) dk) (grB n (byM n c) s) (List.range (n + 1))
  rwa [List.length_range] at this
theorem lc10 (xs : Nat → Int32) (L : Nat) (hL3 : L ≤ 3072) : LC10 xs L IInv := by
  unfold LC10
  intro x4 m_begin m_dark m_end m_faultAt m_form m_hasImage m_heldDark m_lasts m_nodes m_pairs m_point m_symmetries m_taped m_thrown m_toldEdges m_toldForm m_toldNodes m_toldSymmetries m_writtenMany m_by m_decks m_draft m_firstOrder m_five m_forms m_held m_image m_many m_order m_seen m_tape m_toldOrder m_world m_written o x_hasImage x_cycleSums_edges x_cycleSums_hasDark x_cycleSums_parts x_cycleSums_ways x_decks x_draft_bannedCircles x_draft_endLines x_draft_endsJoined x_draft_fewestEdges x_draft_hasDark x_draft_least x_draft_most x_draft_mostEdges x_draft_patterns x_draft_ruleLines x_draft_size x_draft_unlike x_draft_words x_draft_patternCodes x_draft_patternNodes x_forms_allBits x_forms_firstOrder x_forms_isBeaten x_forms_isStudy x_forms_isTest x_forms_least x_forms_nodes x_forms_order x_forms_seen x_forms_stillEdges x_forms_symmetries x_forms_sketch_colours x_forms_sketch_darks x_forms_sketch_nodes x_forms_sketch_fans x_forms_sketch_near x_keptLevels_total x_keptLevels_codes x_keptLevels_firsts x_keptRules_bannedCircles x_keptRules_endLines x_keptRules_endsJoined x_keptRules_fewestEdges x_keptRules_hasDark x_keptRules_least x_keptRules_most x_keptRules_mostEdges x_keptRules_patterns x_keptRules_ruleLines x_keptRules_size x_keptRules_unlike x_keptRules_words x_keptRules_patternCodes x_keptRules_patternNodes x_keptWalkers_allParts x_keptWalkers_depths x_keptWalkers_lists x_keptWalkers_ownParts x_levels_total x_levels_codes x_levels_firsts x_match_best x_match_code x_match_one_colours x_match_one_darks x_match_one_nodes x_match_one_fans x_match_one_near x_match_two_colours x_match_two_darks x_match_two_nodes x_match_two_fans x_match_two_near x_page_length x_page_bytes x_rules_bannedCircles x_rules_endLines x_rules_endsJoined x_rules_fewestEdges x_rules_hasDark x_rules_least x_rules_most x_rules_mostEdges x_rules_patterns x_rules_ruleLines x_rules_size x_rules_unlike x_rules_words x_rules_patternCodes x_rules_patternNodes x_sketch_colours x_sketch_darks x_sketch_nodes x_sketch_fans x_sketch_near x_tape_begun x_tape_length x_tape_position x_tape_wrong x_tape_bytes x_texts_code x_texts_nodes x_toldForms_allBits x_toldForms_firstOrder x_toldForms_isBeaten x_toldForms_isStudy x_toldForms_isTest x_toldForms_least x_toldForms_nodes x_toldForms_order x_toldForms_seen x_toldForms_stillEdges x_toldForms_symmetries x_toldForms_sketch_colours x_toldForms_sketch_darks x_toldForms_sketch_nodes x_toldForms_sketch_fans x_toldForms_sketch_near x_walkers_allParts x_walkers_depths x_walkers_lists x_walkers_ownParts hx0 hxL hI
  obtain ⟨k, hT, hK, hW, hG, hD, hO, hP⟩ := hI
  obtain ⟨hk, hw, ⟨q1, q2, q3, q4, q5, q6, q7, q8, q9, q10, q11, q12, hp⟩, hL, hU⟩ := hK
  subst q1 q2 q3 q4 q5 q6 q7 q8 q9 q10 q11 q12
  have hsz := size_le hk
  have a1 := arg_in hx0 hxL (by omega) (j := 1) (by omega)
  have a2 := arg_in hx0 hxL (by omega) (j := 2) (by omega)
  have a3 := arg_in hx0 hxL (by omega) (j := 3) (by omega)
  have a4 := arg_in hx0 hxL (by omega) (j := 4) (by omega)
  have a5 := arg_in hx0 hxL (by omega) (j := 5) (by omega)
  have o0 := vp_in_nI (n := 0) (N := 1) (by decide) (by decide)
  
  unfold F_law_c10 F_law_c10_827 F_L_grown F_X11_grown F_law_c10_866 F_X12_grown F_X12_grown_27 F_X12_thrown F_law_c10_899
  refine ⟨a1, a2, a3, a4, ?_⟩
  generalize xs (x4 + 1).toNatClampNeg = p1
  generalize xs (x4 + 2).toNatClampNeg = p2
  generalize xs (x4 + 3).toNatClampNeg = p3
  by_cases e : xs (x4 + 4).toNatClampNeg = 0
  · refine br1 e ?_
    rcases net_q hk p1 p2 with h | ⟨n, i, h1, h2, rfl, hi, rfl⟩
    · exact x_needGrown_none hk hL h (Or.inl ⟨rfl, a1, a2, a3, a4, br1 e (f_noGrown_none hk hw hU h (br2 (by decide) (law_fin rfl (fun e => absurd e (by decide)) ⟨rfl, k, hT, ⟨hk, hw, ⟨rfl, rfl, rfl, rfl, rfl, rfl, rfl, rfl, rfl, rfl, rfl, rfl, hp⟩, hL, hU⟩, hW, hG, hD, hO, hP⟩)))⟩)
    · rcases grown_q k n p3 0 with hb | ⟨s, hs, rfl, h4⟩
      · exact x_needGrown_bad hk hL h1 h2 hi hb (Or.inr (Or.inl ⟨rfl, a1, a2, a3, a4, br1 e (f_noGrown_bad hk hw hU h1 h2 hi hb (br2 (by decide) (law_fin rfl (fun e => absurd e (by decide)) ⟨rfl, k, hT, ⟨hk, hw, ⟨rfl, rfl, rfl, rfl, rfl, rfl, rfl, rfl, rfl, rfl, rfl, rfl, hp⟩, hL, hU⟩, hW, hG, hD, hO, hP⟩)))⟩))
      · rw [nI_1]
        refine x_needGrown_ok hk hL h1 h2 hi hs h4 (fun en => Or.inr (Or.inr ⟨rfl, a1, a2, a3, a4, br1 e (f_noGrown_ok hk hw hU h1 h2 hi hs h4 (fun _ => (br2 (by decide) (law_fin rfl (fun e => absurd e (by decide)) ⟨rfl, k, hT, ⟨hk, hw, ⟨rfl, rfl, rfl, rfl, rfl, rfl, rfl, rfl, rfl, rfl, rfl, rfl, hp⟩, hL, hU⟩, hW, hG, hD, hO, hP⟩))) (fun g => absurd en (by omega)))⟩)) (fun hlt => ?_)
        obtain ⟨gc, gf, _⟩ := gr_net (n := n) (c := (lvl k n).getD i 0) (s := s) (dk := decide ((0 : Int32) ≠ 0)) hs
        refine f_leastOf (by omega) gc hO.1 (fun ab fo ib is' it le nn od se sl sy cl dk' sn fans near hF => ?_)
        have hO : ordOk od ∧ ordOk x_toldForms_order := ⟨hF.2.2.2.2.1, hO.2⟩
        rw [gf]
        exact f_numberOf hk hL (by omega) (by omega) (frm31 (by omega)) ⟨o0, a1, a2, a3, a4, br1 e (f_noGrown_ok hk hw hU h1 h2 hi hs h4 (fun en => absurd hlt (by omega)) (fun _ d nn b hRG => br1 rfl (f_formNow (by omega) (by omega) hRG (fun lasts sym first order _ => f_numberOf12 hk hU (by omega) (by omega) (frm31 (by omega)) (law_fin rfl (fun _ => updL_in) ⟨rfl, k, hT, ⟨hk, hw, ⟨rfl, rfl, rfl, rfl, rfl, rfl, rfl, rfl, rfl, rfl, rfl, rfl, hp⟩, hL, hU⟩, hW, hG, hD, hO, hP⟩)))))⟩
  · refine br2 e ?_
    rcases net_q hk p1 p2 with h | ⟨n, i, h1, h2, rfl, hi, rfl⟩
    · exact x_needGrown_none hk hL h (Or.inl ⟨rfl, a1, a2, a3, a4, br2 e (f_noGrown_none hk hw hU h (br2 (by decide) (law_fin rfl (fun e => absurd e (by decide)) ⟨rfl, k, hT, ⟨hk, hw, ⟨rfl, rfl, rfl, rfl, rfl, rfl, rfl, rfl, rfl, rfl, rfl, rfl, hp⟩, hL, hU⟩, hW, hG, hD, hO, hP⟩)))⟩)
    · rcases grown_q k n p3 1 with hb | ⟨s, hs, rfl, h4⟩
      · exact x_needGrown_bad hk hL h1 h2 hi hb (Or.inr (Or.inl ⟨rfl, a1, a2, a3, a4, br2 e (f_noGrown_bad hk hw hU h1 h2 hi hb (br2 (by decide) (law_fin rfl (fun e => absurd e (by decide)) ⟨rfl, k, hT, ⟨hk, hw, ⟨rfl, rfl, rfl, rfl, rfl, rfl, rfl, rfl, rfl, rfl, rfl, rfl, hp⟩, hL, hU⟩, hW, hG, hD, hO, hP⟩)))⟩))
      · rw [nI_1]
        refine x_needGrown_ok hk hL h1 h2 hi hs h4 (fun en => Or.inr (Or.inr ⟨rfl, a1, a2, a3, a4, br2 e (f_noGrown_ok hk hw hU h1 h2 hi hs h4 (fun _ => (br2 (by decide) (law_fin rfl (fun e => absurd e (by decide)) ⟨rfl, k, hT, ⟨hk, hw, ⟨rfl, rfl, rfl, rfl, rfl, rfl, rfl, rfl, rfl, rfl, rfl, rfl, hp⟩, hL, hU⟩, hW, hG, hD, hO, hP⟩))) (fun g => absurd en (by omega)))⟩)) (fun hlt => ?_)
        obtain ⟨gc, gf, _⟩ := gr_net (n := n) (c := (lvl k n).getD i 0) (s := s) (dk := decide ((1 : Int32) ≠ 0)) hs
        refine f_leastOf (by omega) gc hO.1 (fun ab fo ib is' it le nn od se sl sy cl dk' sn fans near hF => ?_)
        have hO : ordOk od ∧ ordOk x_toldForms_order := ⟨hF.2.2.2.2.1, hO.2⟩
        rw [gf]
        exact f_numberOf hk hL (by omega) (by omega) (frm31 (by omega)) ⟨o0, a1, a2, a3, a4, br2 e (f_noGrown_ok hk hw hU h1 h2 hi hs h4 (fun en => absurd hlt (by omega)) (fun _ d nn b hRG => br1 rfl (f_formNow (by omega) (by omega) hRG (fun lasts sym first order _ => f_numberOf12 hk hU (by omega) (by omega) (frm31 (by omega)) (law_fin rfl (fun _ => updL_in) ⟨rfl, k, hT, ⟨hk, hw, ⟨rfl, rfl, rfl, rfl, rfl, rfl, rfl, rfl, rfl, rfl, rfl, rfl, hp⟩, hL, hU⟩, hW, hG, hD, hO, hP⟩)))))⟩
