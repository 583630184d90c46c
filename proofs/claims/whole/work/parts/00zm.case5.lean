theorem nodeAt_ord {o : Int64} {l : List Nat} {n i : Nat} (h : ordIs o l n) (hn : n ≤ 6) (hi : i < n) : ((o >>> (((3 : Int32) * nI i).toInt64 &&& 63)).toInt32) &&& 7 = nI (l.getD i 0) := by
  obtain ⟨m, hm, rfl, hf⟩ := h
  rw [show (3 : Int32) * nI i = nI (3 * i) from ni_mul 3 i, ln_shr (by omega) (by omega), show (7 : Int32) = nI (2 ^ 3 - 1) from rfl, li_mask, hf i hi]
theorem nlt0 {n : Nat} (h : n < 2 ^ 31) : ¬ nI n < 0 := fun g => by
  have g := Int32.lt_iff_toInt_lt.mp g
  have e := nI_toInt h
  have e0 : (0 : Int32).toInt = 0 := rfl
  omega
theorem gt3 {p : Int32} {b : Nat} (hb : b < 2 ^ 31) (h : nI b < p) : ¬ p < 0 ∧ ¬ p ≤ nI b := by
  have e := Int32.lt_iff_toInt_lt.mp h
  have eb : (nI b).toInt = b := nI_toInt hb
  refine ⟨fun g => ?_, fun g => ?_⟩
  · have g := Int32.lt_iff_toInt_lt.mp g
    have e0 : (0 : Int32).toInt = 0 := rfl
    omega
  · have g := Int32.le_iff_toInt_le.mp g
    omega
theorem lc24 (xs : Nat → Int32) (L : Nat) (hL3 : L ≤ 3072) : LC24 xs L IInv := by
  unfold LC24
  intro x4 m_begin m_dark m_end m_faultAt m_form m_hasImage m_heldDark m_lasts m_nodes m_pairs m_point m_symmetries m_taped m_thrown m_toldEdges m_toldForm m_toldNodes m_toldSymmetries m_writtenMany m_by m_decks m_draft m_firstOrder m_five m_forms m_held m_image m_many m_order m_seen m_tape m_toldOrder m_world m_written o x_hasImage x_cycleSums_edges x_cycleSums_hasDark x_cycleSums_parts x_cycleSums_ways x_decks x_draft_bannedCircles x_draft_endLines x_draft_endsJoined x_draft_fewestEdges x_draft_hasDark x_draft_least x_draft_most x_draft_mostEdges x_draft_patterns x_draft_ruleLines x_draft_size x_draft_unlike x_draft_words x_draft_patternCodes x_draft_patternNodes x_forms_allBits x_forms_firstOrder x_forms_isBeaten x_forms_isStudy x_forms_isTest x_forms_least x_forms_nodes x_forms_order x_forms_seen x_forms_stillEdges x_forms_symmetries x_forms_sketch_colours x_forms_sketch_darks x_forms_sketch_nodes x_forms_sketch_fans x_forms_sketch_near x_keptLevels_total x_keptLevels_codes x_keptLevels_firsts x_keptRules_bannedCircles x_keptRules_endLines x_keptRules_endsJoined x_keptRules_fewestEdges x_keptRules_hasDark x_keptRules_least x_keptRules_most x_keptRules_mostEdges x_keptRules_patterns x_keptRules_ruleLines x_keptRules_size x_keptRules_unlike x_keptRules_words x_keptRules_patternCodes x_keptRules_patternNodes x_keptWalkers_allParts x_keptWalkers_depths x_keptWalkers_lists x_keptWalkers_ownParts x_levels_total x_levels_codes x_levels_firsts x_match_best x_match_code x_match_one_colours x_match_one_darks x_match_one_nodes x_match_one_fans x_match_one_near x_match_two_colours x_match_two_darks x_match_two_nodes x_match_two_fans x_match_two_near x_page_length x_page_bytes x_rules_bannedCircles x_rules_endLines x_rules_endsJoined x_rules_fewestEdges x_rules_hasDark x_rules_least x_rules_most x_rules_mostEdges x_rules_patterns x_rules_ruleLines x_rules_size x_rules_unlike x_rules_words x_rules_patternCodes x_rules_patternNodes x_sketch_colours x_sketch_darks x_sketch_nodes x_sketch_fans x_sketch_near x_tape_begun x_tape_length x_tape_position x_tape_wrong x_tape_bytes x_texts_code x_texts_nodes x_toldForms_allBits x_toldForms_firstOrder x_toldForms_isBeaten x_toldForms_isStudy x_toldForms_isTest x_toldForms_least x_toldForms_nodes x_toldForms_order x_toldForms_seen x_toldForms_stillEdges x_toldForms_symmetries x_toldForms_sketch_colours x_toldForms_sketch_darks x_toldForms_sketch_nodes x_toldForms_sketch_fans x_toldForms_sketch_near x_walkers_allParts x_walkers_depths x_walkers_lists x_walkers_ownParts hx0 hxL hI
  obtain ⟨k, hT, hK, hW, hG, hD, hO, hP⟩ := hI
  obtain ⟨hk, hw, ⟨q1, q2, q3, q4, q5, q6, q7, q8, q9, q10, q11, q12, hp⟩, hL, hU⟩ := hK
  subst q1 q2 q3 q4 q5 q6 q7 q8 q9 q10 q11 q12
  have hsz := size_le hk
  have a1 := arg_in hx0 hxL (by omega) (j := 1) (by omega)
  have a2 := arg_in hx0 hxL (by omega) (j := 2) (by omega)
  have a3 := arg_in hx0 hxL (by omega) (j := 3) (by omega)
  have a4 := arg_in hx0 hxL (by omega) (j := 4) (by omega)
  have a5 := arg_in hx0 hxL (by omega) (j := 5) (by omega)
  have o0 := vp_in_nI (n := 0) (N := 1) (by decide) (by decide)
  
  have hD0 := hD
  obtain ⟨tn, t6, rfl, rfl, d3⟩ := hD0
  unfold F_law_c24 F_L_form F_law_c24_1901 F_X11_form F_X11_form_9 F_X11_needTold F_X12_form F_X12_form_20 F_X12_form_47 F_X12_form_40 F_X12_thrown
  refine ⟨a1, ?_⟩
  generalize xs (x4 + 1).toNatClampNeg = p
  rcases rng p (a := 0) (b := 3) (by decide) (by decide) with h | ⟨n, _, h3, rfl⟩
  · have ex := h
    rcases h with h | h
    · exact br1 h (Or.inl ⟨rfl, a1, f_in_n ex (br4 rfl (f_throws1 (br3 (by decide) (law_fin rfl (fun e => absurd e (by decide)) ⟨rfl, k, hT, ⟨hk, hw, ⟨rfl, rfl, rfl, rfl, rfl, rfl, rfl, rfl, rfl, rfl, rfl, rfl, hp⟩, hL, hU⟩, hW, hG, hD, hO, hP⟩))))⟩)
    · obtain ⟨b1, b2⟩ := gt3 (by decide) h
      exact br2 b1 (br2 b2 (Or.inl ⟨rfl, a1, f_in_n ex (br4 rfl (f_throws1 (br3 (by decide) (law_fin rfl (fun e => absurd e (by decide)) ⟨rfl, k, hT, ⟨hk, hw, ⟨rfl, rfl, rfl, rfl, rfl, rfl, rfl, rfl, rfl, rfl, rfl, rfl, hp⟩, hL, hU⟩, hW, hG, hD, hO, hP⟩))))⟩))
  · refine br2 (nlt0 (by omega)) (br1 (nI_le (by omega) (by decide)) ?_)
    by_cases h0 : tn = 0
    · subst h0
      exact br4 rfl (Or.inr ⟨rfl, a1, f_in_y (a := 0) (b := 3) (Nat.zero_le _) h3 (by decide) (br3 (by decide) (f_throws0 (br4 rfl (br4 rfl (f_throws1 (br2 (by decide) (law_fin rfl (fun e => absurd e (by decide)) ⟨rfl, k, hT, ⟨hk, hw, ⟨rfl, rfl, rfl, rfl, rfl, rfl, rfl, rfl, rfl, rfl, rfl, rfl, hp⟩, hL, hU⟩, hW, hG, hD, hO, hP⟩)))))))⟩)
    · obtain ⟨f, l, l1, l2, l3, l4, l5, l6, l7⟩ := d3 h0
      subst l2 l3 l4 l5
      have hne : ¬ nI tn = 0 := (fun e => h0 (ni_inj (by omega) (by decide) e))
      refine br3 hne ?_
      rcases (show n = 0 ∨ n = 1 ∨ n = 2 ∨ n = 3 by omega) with rfl | rfl | rfl | rfl
      · exact ⟨fun _ => ⟨o0, a1, f_in_y (a := 0) (b := 3) (Nat.zero_le _) (by decide) (by decide) (br3 (by decide) (f_throws0 (br4 rfl (br3 hne (f_throws0 (br1 rfl ⟨fun _ => (law_fin rfl (fun _ => updL_in.trans rfl) ⟨rfl, k, hT, ⟨hk, hw, ⟨rfl, rfl, rfl, rfl, rfl, rfl, rfl, rfl, rfl, rfl, rfl, rfl, hp⟩, hL, hU⟩, hW, hG, hD, hO, hP⟩), fun e => absurd e (by decide), fun e => absurd e (by decide), fun g0 g1 g2 => absurd rfl g0⟩))))))⟩, fun e => absurd e (by decide), fun e => absurd e (by decide), fun g0 g1 g2 => absurd rfl g0⟩
      · exact ⟨fun e => absurd e (by decide), fun _ => ⟨o0, a1, f_in_y (a := 0) (b := 3) (Nat.zero_le _) (by decide) (by decide) (br3 (by decide) (f_throws0 (br4 rfl (br3 hne (f_throws0 (br1 rfl ⟨fun e => absurd e (by decide), fun _ => (law_fin rfl (fun _ => updL_in.trans rfl) ⟨rfl, k, hT, ⟨hk, hw, ⟨rfl, rfl, rfl, rfl, rfl, rfl, rfl, rfl, rfl, rfl, rfl, rfl, hp⟩, hL, hU⟩, hW, hG, hD, hO, hP⟩), fun e => absurd e (by decide), fun g0 g1 g2 => absurd rfl g1⟩))))))⟩, fun e => absurd e (by decide), fun g0 g1 g2 => absurd rfl g1⟩
      · exact ⟨fun e => absurd e (by decide), fun e => absurd e (by decide), fun _ => ⟨o0, a1, f_in_y (a := 0) (b := 3) (Nat.zero_le _) (by decide) (by decide) (br3 (by decide) (f_throws0 (br4 rfl (br3 hne (f_throws0 (br1 rfl ⟨fun e => absurd e (by decide), fun e => absurd e (by decide), fun _ => (law_fin rfl (fun _ => updL_in.trans rfl) ⟨rfl, k, hT, ⟨hk, hw, ⟨rfl, rfl, rfl, rfl, rfl, rfl, rfl, rfl, rfl, rfl, rfl, rfl, hp⟩, hL, hU⟩, hW, hG, hD, hO, hP⟩), fun g0 g1 g2 => absurd rfl g2⟩))))))⟩, fun g0 g1 g2 => absurd rfl g2⟩
      · exact ⟨fun e => absurd e (by decide), fun e => absurd e (by decide), fun e => absurd e (by decide), fun _ _ _ => (f_edges t6 (by have := LN_mono t6; exact Nat.lt_of_lt_of_le l1 (Nat.pow_le_pow_right (by decide) (Nat.le_trans this (by decide)))) ⟨o0, a1, f_in_y (a := 0) (b := 3) (Nat.zero_le _) (by decide) (by decide) (br3 (by decide) (f_throws0 (br4 rfl (br3 hne (f_throws0 (br1 rfl ⟨fun e => absurd e (by decide), fun e => absurd e (by decide), fun e => absurd e (by decide), fun _ _ _ => (law_fin rfl (fun _ => updL_in.trans rfl) ⟨rfl, k, hT, ⟨hk, hw, ⟨rfl, rfl, rfl, rfl, rfl, rfl, rfl, rfl, rfl, rfl, rfl, rfl, hp⟩, hL, hU⟩, hW, hG, hD, hO, hP⟩)⟩))))))⟩)⟩
theorem lc25 (xs : Nat → Int32) (L : Nat) (hL3 : L ≤ 3072) : LC25 xs L IInv := by
  unfold LC25
  intro x4 m_begin m_dark m_end m_faultAt m_form m_hasImage m_heldDark m_lasts m_nodes m_pairs m_point m_symmetries m_taped m_thrown m_toldEdges m_toldForm m_toldNodes m_toldSymmetries m_writtenMany m_by m_decks m_draft m_firstOrder m_five m_forms m_held m_image m_many m_order m_seen m_tape m_toldOrder m_world m_written o x_hasImage x_cycleSums_edges x_cycleSums_hasDark x_cycleSums_parts x_cycleSums_ways x_decks x_draft_bannedCircles x_draft_endLines x_draft_endsJoined x_draft_fewestEdges x_draft_hasDark x_draft_least x_draft_most x_draft_mostEdges x_draft_patterns x_draft_ruleLines x_draft_size x_draft_unlike x_draft_words x_draft_patternCodes x_draft_patternNodes x_forms_allBits x_forms_firstOrder x_forms_isBeaten x_forms_isStudy x_forms_isTest x_forms_least x_forms_nodes x_forms_order x_forms_seen x_forms_stillEdges x_forms_symmetries x_forms_sketch_colours x_forms_sketch_darks x_forms_sketch_nodes x_forms_sketch_fans x_forms_sketch_near x_keptLevels_total x_keptLevels_codes x_keptLevels_firsts x_keptRules_bannedCircles x_keptRules_endLines x_keptRules_endsJoined x_keptRules_fewestEdges x_keptRules_hasDark x_keptRules_least x_keptRules_most x_keptRules_mostEdges x_keptRules_patterns x_keptRules_ruleLines x_keptRules_size x_keptRules_unlike x_keptRules_words x_keptRules_patternCodes x_keptRules_patternNodes x_keptWalkers_allParts x_keptWalkers_depths x_keptWalkers_lists x_keptWalkers_ownParts x_levels_total x_levels_codes x_levels_firsts x_match_best x_match_code x_match_one_colours x_match_one_darks x_match_one_nodes x_match_one_fans x_match_one_near x_match_two_colours x_match_two_darks x_match_two_nodes x_match_two_fans x_match_two_near x_page_length x_page_bytes x_rules_bannedCircles x_rules_endLines x_rules_endsJoined x_rules_fewestEdges x_rules_hasDark x_rules_least x_rules_most x_rules_mostEdges x_rules_patterns x_rules_ruleLines x_rules_size x_rules_unlike x_rules_words x_rules_patternCodes x_rules_patternNodes x_sketch_colours x_sketch_darks x_sketch_nodes x_sketch_fans x_sketch_near x_tape_begun x_tape_length x_tape_position x_tape_wrong x_tape_bytes x_texts_code x_texts_nodes x_toldForms_allBits x_toldForms_firstOrder x_toldForms_isBeaten x_toldForms_isStudy x_toldForms_isTest x_toldForms_least x_toldForms_nodes x_toldForms_order x_toldForms_seen x_toldForms_stillEdges x_toldForms_symmetries x_toldForms_sketch_colours x_toldForms_sketch_darks x_toldForms_sketch_nodes x_toldForms_sketch_fans x_toldForms_sketch_near x_walkers_allParts x_walkers_depths x_walkers_lists x_walkers_ownParts hx0 hxL hI
  obtain ⟨k, hT, hK, hW, hG, hD, hO, hP⟩ := hI
  obtain ⟨hk, hw, ⟨q1, q2, q3, q4, q5, q6, q7, q8, q9, q10, q11, q12, hp⟩, hL, hU⟩ := hK
  subst q1 q2 q3 q4 q5 q6 q7 q8 q9 q10 q11 q12
  have hsz := size_le hk
  have a1 := arg_in hx0 hxL (by omega) (j := 1) (by omega)
  have a2 := arg_in hx0 hxL (by omega) (j := 2) (by omega)
  have a3 := arg_in hx0 hxL (by omega) (j := 3) (by omega)
  have a4 := arg_in hx0 hxL (by omega) (j := 4) (by omega)
  have a5 := arg_in hx0 hxL (by omega) (j := 5) (by omega)
  have o0 := vp_in_nI (n := 0) (N := 1) (by decide) (by decide)
  
  have hD0 := hD
  obtain ⟨tn, t6, rfl, rfl, d3⟩ := hD0
  unfold F_law_c25 F_L_order F_law_c25_1957 F_X11_order F_X11_order_19 F_X11_needTold F_X12_order F_X12_order_18 F_X12_order_45 F_X12_order_52 F_X12_order_62 F_X12_thrown F_X2_nodeAt
  refine ⟨a1, ?_⟩
  generalize xs (x4 + 1).toNatClampNeg = p
  by_cases h0 : tn = 0
  · subst h0
    exact br4 rfl (Or.inl ⟨rfl, a1, br4 rfl (f_throws1 (br3 (by decide) (law_fin rfl (fun e => absurd e (by decide)) ⟨rfl, k, hT, ⟨hk, hw, ⟨rfl, rfl, rfl, rfl, rfl, rfl, rfl, rfl, rfl, rfl, rfl, rfl, hp⟩, hL, hU⟩, hW, hG, hD, hO, hP⟩)))⟩)
  · obtain ⟨f, l, l1, l2, l3, l4, l5, l6, l7⟩ := d3 h0
    have hne : ¬ nI tn = 0 := (fun e => h0 (ni_inj (by omega) (by decide) e))
    refine br3 hne ?_
    rcases node_q tn (by omega) p with h | ⟨n, hn, rfl⟩
    · rcases h with h | h
      · exact br1 h (Or.inr ⟨rfl, a1, br3 hne (f_throws0 (br4 rfl (f_in_len (W := tn) (by omega) (Or.inl h) (br4 rfl (f_throws1 (br2 (by decide) (law_fin rfl (fun e => absurd e (by decide)) ⟨rfl, k, hT, ⟨hk, hw, ⟨rfl, rfl, rfl, rfl, rfl, rfl, rfl, rfl, rfl, rfl, rfl, rfl, hp⟩, hL, hU⟩, hW, hG, hD, hO, hP⟩)))))))⟩)
      · have h' := Int32.not_lt.mp h
        have b0 : ¬ p < 0 := fun g => by
          have g := Int32.lt_iff_toInt_lt.mp g
          have h' := Int32.le_iff_toInt_le.mp h'
          have eb : (nI tn).toInt = tn := nI_toInt (by omega)
          have e0 : (0 : Int32).toInt = 0 := rfl
          omega
        exact br2 b0 (br2 h (Or.inr ⟨rfl, a1, br3 hne (f_throws0 (br4 rfl (f_in_len (W := tn) (by omega) (Or.inr h') (br4 rfl (f_throws1 (br2 (by decide) (law_fin rfl (fun e => absurd e (by decide)) ⟨rfl, k, hT, ⟨hk, hw, ⟨rfl, rfl, rfl, rfl, rfl, rfl, rfl, rfl, rfl, rfl, rfl, rfl, hp⟩, hL, hU⟩, hW, hG, hD, hO, hP⟩)))))))⟩))
    · refine br2 (nlt0 (by omega)) (br1 (nI_lt (by omega) (by omega)) ⟨o0, a1, br3 hne (f_throws0 (br4 rfl (f_in_lenY (W := tn) (by omega) hn (br3 (by decide) (f_throws0 (br1 rfl ⟨vp_in_nI (by omega) (by decide), law_fin rfl (fun _ => ?_) ⟨rfl, k, hT, ⟨hk, hw, ⟨rfl, rfl, rfl, rfl, rfl, rfl, rfl, rfl, rfl, rfl, rfl, rfl, hp⟩, hL, hU⟩, hW, hG, hD, hO, hP⟩⟩))))))⟩)
      refine updL_in.trans ?_
      rw [nodeAt_ord l7 t6 hn, nI_clamp (by omega), l6 n hn]
