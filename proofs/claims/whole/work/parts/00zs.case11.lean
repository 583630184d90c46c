theorem nds_out : ∀ n, n ≤ 6 → ∀ v, v < n → (nds ((2 ^ n - 1) ^^^ 2 ^ v) n).length = n - 1 ∧ ∀ u, u < n - 1 → (nds ((2 ^ n - 1) ^^^ 2 ^ v) n).getD u 0 = skp v u := by decide +kernel
theorem out_mask : ∀ n, n ≤ 6 → ∀ v, v < n → (((1 : Int32) <<< (nI n &&& 31)) - 1) ^^^ ((1 : Int32) <<< (nI v &&& 31)) = nI ((2 ^ n - 1) ^^^ 2 ^ v) ∧ (2 ^ n - 1) ^^^ 2 ^ v < 64 := by decide +kernel
theorem nds_lt {s n : Nat} : ∀ x ∈ nds s n, x < n := fun x hx => List.mem_range.mp (List.mem_filter.mp hx).1
theorem deck_frm {n c v : Nat} (hn : n ≤ 6) (hv : v < n) : cod (dkM n c) (byM n c) (nds ((2 ^ n - 1) ^^^ 2 ^ v) n) < 2 ^ LN (n - 1) ∧ frm (n - 1) (dkM (n - 1) (cod (dkM n c) (byM n c) (nds ((2 ^ n - 1) ^^^ 2 ^ v) n))) (byM (n - 1) (cod (dkM n c) (byM n c) (nds ((2 ^ n - 1) ^^^ 2 ^ v) n))) = frm (n - 1) (rmb (dkM n c) v) (fun u => rmb (byM n c (skp v u)) v) := by
  obtain ⟨e1, e2⟩ := nds_out n hn v hv
  have hq := nds_lt (s := (2 ^ n - 1) ^^^ 2 ^ v) (n := n)
  generalize nds ((2 ^ n - 1) ^^^ 2 ^ v) n = q at e1 e2 hq ⊢
  obtain ⟨n1, n2⟩ := net_cod (D := dkM n c) (gb_byM n c) e1 hq
  refine ⟨?_, (frm_congr (fun l hl => cod_congr (fun w hw => ?_) (fun w hw u hu => ?_))).1⟩
  · have := cod_lt (dkM n c) (byM n c) q
    rwa [e1] at this
  · have hw := lex_mem hl w hw
    rw [n1 w hw, rmb_tb v (by omega) _ (dkM64 hn) w (by omega), e2 w hw]
  · have hw := lex_mem hl w hw
    have hu := lex_mem hl u hu
    rw [n2 w u hw hu, e2 w hw, e2 u hu]
    show _ = (rmb (byM n c (skp v w)) v).testBit u
    rw [rmb_tb v (by omega) _ (byM64 hn) u (by omega)]
theorem lc12 (xs : Nat → Int32) (L : Nat) (hL3 : L ≤ 3072) : LC12 xs L IInv := by
  unfold LC12
  intro x4 m_begin m_dark m_end m_faultAt m_form m_hasImage m_heldDark m_lasts m_nodes m_pairs m_point m_symmetries m_taped m_thrown m_toldEdges m_toldForm m_toldNodes m_toldSymmetries m_writtenMany m_by m_decks m_draft m_firstOrder m_five m_forms m_held m_image m_many m_order m_seen m_tape m_toldOrder m_world m_written o x_hasImage x_cycleSums_edges x_cycleSums_hasDark x_cycleSums_parts x_cycleSums_ways x_decks x_draft_bannedCircles x_draft_endLines x_draft_endsJoined x_draft_fewestEdges x_draft_hasDark x_draft_least x_draft_most x_draft_mostEdges x_draft_patterns x_draft_ruleLines x_draft_size x_draft_unlike x_draft_words x_draft_patternCodes x_draft_patternNodes x_forms_allBits x_forms_firstOrder x_forms_isBeaten x_forms_isStudy x_forms_isTest x_forms_least x_forms_nodes x_forms_order x_forms_seen x_forms_stillEdges x_forms_symmetries x_forms_sketch_colours x_forms_sketch_darks x_forms_sketch_nodes x_forms_sketch_fans x_forms_sketch_near x_keptLevels_total x_keptLevels_codes x_keptLevels_firsts x_keptRules_bannedCircles x_keptRules_endLines x_keptRules_endsJoined x_keptRules_fewestEdges x_keptRules_hasDark x_keptRules_least x_keptRules_most x_keptRules_mostEdges x_keptRules_patterns x_keptRules_ruleLines x_keptRules_size x_keptRules_unlike x_keptRules_words x_keptRules_patternCodes x_keptRules_patternNodes x_keptWalkers_allParts x_keptWalkers_depths x_keptWalkers_lists x_keptWalkers_ownParts x_levels_total x_levels_codes x_levels_firsts x_match_best x_match_code x_match_one_colours x_match_one_darks x_match_one_nodes x_match_one_fans x_match_one_near x_match_two_colours x_match_two_darks x_match_two_nodes x_match_two_fans x_match_two_near x_page_length x_page_bytes x_rules_bannedCircles x_rules_endLines x_rules_endsJoined x_rules_fewestEdges x_rules_hasDark x_rules_least x_rules_most x_rules_mostEdges x_rules_patterns x_rules_ruleLines x_rules_size x_rules_unlike x_rules_words x_rules_patternCodes x_rules_patternNodes x_sketch_colours x_sketch_darks x_sketch_nodes x_sketch_fans x_sketch_near x_tape_begun x_tape_length x_tape_position x_tape_wrong x_tape_bytes x_texts_code x_texts_nodes x_toldForms_allBits x_toldForms_firstOrder x_toldForms_isBeaten x_toldForms_isStudy x_toldForms_isTest x_toldForms_least x_toldForms_nodes x_toldForms_order x_toldForms_seen x_toldForms_stillEdges x_toldForms_symmetries x_toldForms_sketch_colours x_toldForms_sketch_darks x_toldForms_sketch_nodes x_toldForms_sketch_fans x_toldForms_sketch_near x_walkers_allParts x_walkers_depths x_walkers_lists x_walkers_ownParts hx0 hxL hI
  obtain ⟨k, hT, hK, hW, hG, hD, hO, hP⟩ := hI
  obtain ⟨hk, hw, ⟨q1, q2, q3, q4, q5, q6, q7, q8, q9, q10, q11, q12, hp⟩, hL, hU⟩ := hK
  subst q1 q2 q3 q4 q5 q6 q7 q8 q9 q10 q11 q12
  have hsz := size_le hk
  have a1 := arg_in hx0 hxL (by omega) (j := 1) (by omega)
  have a2 := arg_in hx0 hxL (by omega) (j := 2) (by omega)
  have a3 := arg_in hx0 hxL (by omega) (j := 3) (by omega)
  have a4 := arg_in hx0 hxL (by omega) (j := 4) (by omega)
  have a5 := arg_in hx0 hxL (by omega) (j := 5) (by omega)
  have o0 := vp_in_nI (n := 0) (N := 1) (by decide) (by decide)
  
  unfold F_law_c12 F_L_deck F_law_c12_1094 F_X11_deck F_X12_deck F_X12_deck_28 F_X12_deck_21 F_X12_thrown
  refine ⟨a1, a2, a3, ?_⟩
  generalize xs (x4 + 1).toNatClampNeg = p1
  generalize xs (x4 + 2).toNatClampNeg = p2
  generalize xs (x4 + 3).toNatClampNeg = p3
  rcases net_q hk p1 p2 with h | ⟨n, i, h1, h2, rfl, hi, rfl⟩
  · exact x_needNet_n hk hL h (Or.inl ⟨rfl, a1, a2, a3, f_noNode_n hk hw hU (Or.inl h) (br3 (by decide) (law_fin rfl (fun e => absurd e (by decide)) ⟨rfl, k, hT, ⟨hk, hw, ⟨rfl, rfl, rfl, rfl, rfl, rfl, rfl, rfl, rfl, rfl, rfl, rfl, hp⟩, hL, hU⟩, hW, hG, hD, hO, hP⟩))⟩)
  · have hc := lvl_get hk h1 h2 hi
    have hc31 := lvl_lt31 hk h1 (by omega) hi
    refine x_needNet_y hk hL h1 h2 hi ?_
    rcases node_q n (by omega) p3 with h3 | ⟨v, hv, rfl⟩
    · exact x_needNode_n h3 (Or.inl ⟨rfl, a1, a2, a3, f_noNode_n hk hw hU (Or.inr ⟨n, i, h1, h2, rfl, hi, rfl, h3⟩) (br3 (by decide) (law_fin rfl (fun e => absurd e (by decide)) ⟨rfl, k, hT, ⟨hk, hw, ⟨rfl, rfl, rfl, rfl, rfl, rfl, rfl, rfl, rfl, rfl, rfl, rfl, hp⟩, hL, hU⟩, hW, hG, hD, hO, hP⟩))⟩)
    · refine x_needNode_y hv (by omega) ?_
      by_cases e : n = 1
      · subst e
        exact br4 rfl (Or.inr ⟨rfl, a1, a2, a3, f_noNode_y hk hw hU h1 h2 hi hv (br4 rfl (br4 rfl (f_throws1 (br2 (by decide) (law_fin rfl (fun e => absurd e (by decide)) ⟨rfl, k, hT, ⟨hk, hw, ⟨rfl, rfl, rfl, rfl, rfl, rfl, rfl, rfl, rfl, rfl, rfl, rfl, hp⟩, hL, hU⟩, hW, hG, hD, hO, hP⟩)))))⟩)
      · have ne : ¬ nI n = 1 := fun g => e (ni_inj (b := 1) (by omega) (by decide) g)
        refine br3 ne ?_
        unfold F_X11_numberWithout
        obtain ⟨m1, m2⟩ := out_mask n (by omega) v hv
        obtain ⟨d1, d2⟩ := deck_frm (n := n) (c := (lvl k n).getD i 0) (v := v) (by omega) hv
        rw [m1, show nI n - 1 = nI (n - 1) from ni_sub (b := 1) (by omega)]
        refine f_part (by omega) (by omega) (by omega) (f_leastOf (by omega) d1 hO.1 (fun ab fo ib is' it le nn od se sl sy cl dk' sn fans near hF => ?_))
        have hO : ordOk od ∧ ordOk x_toldForms_order := ⟨hF.2.2.2.2.1, hO.2⟩
        rw [d2]
        exact f_numberOf hk hL (by omega) (by omega) (frm31 (by omega)) ⟨o0, a1, a2, a3, f_noNode_y hk hw hU h1 h2 hi hv (br4 rfl (br3 ne (f_throws0 (br1 rfl (f_without hk hU (by omega) h2 hi hv (fun d f l nn s b o1 o2 => law_fin rfl (fun _ => updL_in) ⟨rfl, k, hT, ⟨hk, hw, ⟨rfl, rfl, rfl, rfl, rfl, rfl, rfl, rfl, rfl, rfl, rfl, rfl, hp⟩, hL, hU⟩, hW, hG, hD, hO, hP⟩))))))⟩
