theorem x31 {c n d : Nat} (hc : c < 2 ^ LN n) (hnd : n ≤ d) (hd : d ≤ 7) : (c + 1) * 2 ^ (LN d - LN n) < 2 ^ 31 := by
  have hl := LN_mono hnd
  have hd7 := LN_mono hd
  have e7 : LN 7 = 28 := rfl
  have h : (c + 1) * 2 ^ (LN d - LN n) ≤ 2 ^ LN n * 2 ^ (LN d - LN n) := Nat.mul_le_mul_right _ hc
  rw [← Nat.pow_add, show LN n + (LN d - LN n) = LN d by omega] at h
  have : 2 ^ LN d ≤ 2 ^ 28 := Nat.pow_le_pow_right (by decide) (by omega)
  exact Nat.lt_of_le_of_lt (Nat.le_trans h this) (by decide)
theorem lc9 (xs : Nat → Int32) (L : Nat) (hL3 : L ≤ 3072) : LC9 xs L IInv := by
  unfold LC9
  intro x4 m_begin m_dark m_end m_faultAt m_form m_hasImage m_heldDark m_lasts m_nodes m_pairs m_point m_symmetries m_taped m_thrown m_toldEdges m_toldForm m_toldNodes m_toldSymmetries m_writtenMany m_by m_decks m_draft m_firstOrder m_five m_forms m_held m_image m_many m_order m_seen m_tape m_toldOrder m_world m_written o x_hasImage x_cycleSums_edges x_cycleSums_hasDark x_cycleSums_parts x_cycleSums_ways x_decks x_draft_bannedCircles x_draft_endLines x_draft_endsJoined x_draft_fewestEdges x_draft_hasDark x_draft_least x_draft_most x_draft_mostEdges x_draft_patterns x_draft_ruleLines x_draft_size x_draft_unlike x_draft_words x_draft_patternCodes x_draft_patternNodes x_forms_allBits x_forms_firstOrder x_forms_isBeaten x_forms_isStudy x_forms_isTest x_forms_least x_forms_nodes x_forms_order x_forms_seen x_forms_stillEdges x_forms_symmetries x_forms_sketch_colours x_forms_sketch_darks x_forms_sketch_nodes x_forms_sketch_fans x_forms_sketch_near x_keptLevels_total x_keptLevels_codes x_keptLevels_firsts x_keptRules_bannedCircles x_keptRules_endLines x_keptRules_endsJoined x_keptRules_fewestEdges x_keptRules_hasDark x_keptRules_least x_keptRules_most x_keptRules_mostEdges x_keptRules_patterns x_keptRules_ruleLines x_keptRules_size x_keptRules_unlike x_keptRules_words x_keptRules_patternCodes x_keptRules_patternNodes x_keptWalkers_allParts x_keptWalkers_depths x_keptWalkers_lists x_keptWalkers_ownParts x_levels_total x_levels_codes x_levels_firsts x_match_best x_match_code x_match_one_colours x_match_one_darks x_match_one_nodes x_match_one_fans x_match_one_near x_match_two_colours x_match_two_darks x_match_two_nodes x_match_two_fans x_match_two_near x_page_length x_page_bytes x_rules_bannedCircles x_rules_endLines x_rules_endsJoined x_rules_fewestEdges x_rules_hasDark x_rules_least x_rules_most x_rules_mostEdges x_rules_patterns x_rules_ruleLines x_rules_size x_rules_unlike x_rules_words x_rules_patternCodes x_rules_patternNodes x_sketch_colours x_sketch_darks x_sketch_nodes x_sketch_fans x_sketch_near x_tape_begun x_tape_length x_tape_position x_tape_wrong x_tape_bytes x_texts_code x_texts_nodes x_toldForms_allBits x_toldForms_firstOrder x_toldForms_isBeaten x_toldForms_isStudy x_toldForms_isTest x_toldForms_least x_toldForms_nodes x_toldForms_order x_toldForms_seen x_toldForms_stillEdges x_toldForms_symmetries x_toldForms_sketch_colours x_toldForms_sketch_darks x_toldForms_sketch_nodes x_toldForms_sketch_fans x_toldForms_sketch_near x_walkers_allParts x_walkers_depths x_walkers_lists x_walkers_ownParts hx0 hxL hI
  obtain ⟨k, hT, hK, hW, hG, hD, hO, hP⟩ := hI
  obtain ⟨hk, hw, ⟨q1, q2, q3, q4, q5, q6, q7, q8, q9, q10, q11, q12, hp⟩, hL, hU⟩ := hK
  subst q1 q2 q3 q4 q5 q6 q7 q8 q9 q10 q11 q12
  have hsz := size_le hk
  have a1 := arg_in hx0 hxL (by omega) (j := 1) (by omega)
  have a2 := arg_in hx0 hxL (by omega) (j := 2) (by omega)
  have a3 := arg_in hx0 hxL (by omega) (j := 3) (by omega)
  have a4 := arg_in hx0 hxL (by omega) (j := 4) (by omega)
  have a5 := arg_in hx0 hxL (by omega) (j := 5) (by omega)
  have o0 := vp_in_nI (n := 0) (N := 1) (by decide) (by decide)
  
  unfold F_law_c9 F_L_child F_law_c9_791
  refine ⟨a1, a2, a3, ?_⟩
  generalize xs (x4 + 1).toNatClampNeg = p1
  generalize xs (x4 + 2).toNatClampNeg = p2
  generalize xs (x4 + 3).toNatClampNeg = p3
  unfold F_X11_child F_X11_child_27 F_X12_child F_X12_child_26 F_X12_thrown
  rcases net_q hk p1 p2 with h | ⟨n, i, h1, h2, rfl, hi, rfl⟩
  · exact x_needNet_n hk hL h ⟨rfl, a1, a2, a3, f_noNet_n hk hw hU h (br2 (by decide) (law_fin rfl (fun e => absurd e (by decide)) ⟨rfl, k, hT, ⟨hk, hw, ⟨rfl, rfl, rfl, rfl, rfl, rfl, rfl, rfl, rfl, rfl, rfl, rfl, hp⟩, hL, hU⟩, hW, hG, hD, hO, hP⟩))⟩
  · refine x_needNet_y hk hL h1 h2 hi ?_
    by_cases g : p3 < 0
    · exact br1 g ⟨o0, a1, a2, a3, f_noNet_y hk hw hU h1 h2 hi (br1 rfl (br2 (Int32.not_le.mpr g) (law_fin rfl (fun _ => updL_in) ⟨rfl, k, hT, ⟨hk, hw, ⟨rfl, rfl, rfl, rfl, rfl, rfl, rfl, rfl, rfl, rfl, rfl, rfl, hp⟩, hL, hU⟩, hW, hG, hD, hO, hP⟩)))⟩
    · have g0 := Int32.not_lt.mp g
      obtain ⟨j, hj, rfl⟩ := nI_of g
      refine br2 g ?_
      rw [nI_1]
      have es : LN (n + 1) - LN n = n + 1 := by have := LN_succ n; omega
      have hx := x31 (lvl_get hk h1 h2 hi).2.1 (show n ≤ n + 1 by omega) (by omega)
      have hl1 : (lvl k (n + 1)).length ≤ 544 := by
        rcases Nat.lt_or_ge (n + 1) 7 with q | q
        · exact lvl_len k _ (by omega)
        · unfold lvl
          rw [if_neg (by omega)]
          exact Nat.zero_le _
      refine f_heirs hk hL h1 h2 (by omega) (by omega) hi hx (fun t1 t2 t12 b1 b2 => ?_)
      rw [es] at b1 b2
      have hend := b2.1
      have ch : ∀ post : Int32 → Int32 → Int32 → Int32 → Int32 → Int32 → (Nat → Int32) → (Nat → Int32) → (Nat → Int32) → Prop, _ → _ → F_X12_childOf m_forms m_many m_world m_dark m_form m_lasts m_nodes m_symmetries m_by m_firstOrder m_order (nI n) (nI i) (nI j) post := fun post => f_childOf hk hw hU h1 h2 hi hj b1 b2 t12 (post := post)
      by_cases q : j < t2 - t1
      · refine br1 (nI_lt q (by omega)) (f_firstHeir hk hL h1 h2 (by omega) (by omega) hi (by rw [Nat.add_mul] at hx; omega) (fun t b => ?_))
        rw [es] at b
        have e := LB_uniq b b1
        subst e
        rw [nI_add]
        exact ⟨o0, a1, a2, a3, f_noNet_y hk hw hU h1 h2 hi (br1 rfl (br1 g0 (ch _ (fun _ d f l nn s b o1 o2 => law_fin rfl (fun _ => updL_in) ⟨rfl, k, hT, ⟨hk, hw, ⟨rfl, rfl, rfl, rfl, rfl, rfl, rfl, rfl, rfl, rfl, rfl, rfl, hp⟩, hL, hU⟩, hW, hG, hD, hO, hP⟩) (fun g => absurd q (by omega)))))⟩
      · refine br2 (fun e => q ((nI_ltI hj (by omega)).mp e)) ?_
        exact ⟨o0, a1, a2, a3, f_noNet_y hk hw hU h1 h2 hi (br1 rfl (br1 g0 (ch _ (fun g => absurd g q) (fun _ d f l nn s b o1 o2 => law_fin rfl (fun _ => updL_in) ⟨rfl, k, hT, ⟨hk, hw, ⟨rfl, rfl, rfl, rfl, rfl, rfl, rfl, rfl, rfl, rfl, rfl, rfl, hp⟩, hL, hU⟩, hW, hG, hD, hO, hP⟩))))⟩
