theorem aeM_lt : ∀ n, n ≤ 6 → aeM n < 2 ^ LN n := by decide +kernel
/-- a node's row, all lines but its own changed -/
def cmr (n v x : Nat) : Nat := maskOf (fun u => decide (u ≠ v) && !x.testBit u) n
theorem cmr_i : ∀ n, n ≤ 6 → ∀ v, v < n → ∀ x, x < 64 → ((nI x ^^^ (-1)) &&& (((1 : Int32) <<< (nI n &&& 31)) - 1)) &&& (((1 : Int32) <<< (nI v &&& 31)) ^^^ (-1)) = nI (cmr n v x) := by decide +kernel
theorem f_other19 {k : KD} (hk : KOk k) {w forms many : Nat → Int32} (hU : LvUp k 7 forms many) {n D : Nat} {B : Nat → Nat} (h1 : 1 ≤ n) (hn : n ≤ 6) (hD : D < 64) (hB : ∀ u, u < n → B u < 64) {th : Int32} {post : Int32 → Int32 → Int32 → Int32 → Int32 → Int32 → Int32 → (Nat → Int32) → (Nat → Int32) → (Nat → Int32) → Prop} (K : ∀ d f l nn s b o1 o2, post (oI (ixF (lvl k n) (frm n D (fun u => cmr n u (B u))))) d f l nn s th b o1 o2) : ∀ (j i f l s : _) (by' o1 o2 : Nat → Int32), i + j = n → (∀ u, u < i → by' u = nI (cmr n u (B u))) → (∀ u, i ≤ u → u < n → by' u = nI (B u)) → F_X12_other_19 forms many w post (j + 1) (nI n) (nI i) (nI D) f l (nI n) s th by' o1 o2 := by
  intro j
  induction j with
  | zero =>
    intro i f l s by' o1 o2 hi g1 g2
    unfold F_X12_other_19
    refine br1 (nI_le (by omega) (by omega)) ?_
    have hG : RG n D (fun u => cmr n u (B u)) (nI D) (nI n) by' := ⟨rfl, rfl, by omega, fun u hu => ⟨g1 u (by omega), Nat.lt_of_lt_of_le (mask_lt _ _) (Nat.pow_le_pow_right (by decide) (by omega))⟩⟩
    refine f_formNow hn h1 hG (fun lasts sym first order _ => f_numberOf12 hk hU h1 hn ?_ (K _ _ _ _ _ _ _ _))
    obtain ⟨q, hq, e⟩ := frm_at (n := n) (D := D) (B := fun u => cmr n u (B u))
    rw [← e]
    have := cod_lt D (fun u => cmr n u (B u)) q
    rw [lex_mem_len hq] at this
    have := Nat.lt_of_lt_of_le this (Nat.pow_le_pow_right (by decide) (LN_mono hn))
    have e6 : LN 6 = 21 := rfl
    rw [e6] at this
    exact Nat.lt_trans this (by decide)
  | succ j ih =>
    intro i f l s by' o1 o2 hi g1 g2
    unfold F_X12_other_19
    refine br2 (nI_ge (by omega) (by omega)) ⟨vp_in_nI (by omega) (by decide), vp_in_nI (by omega) (by decide), ?_⟩
    rw [nI_clamp (by omega), g2 i (Nat.le_refl _) (by omega), cmr_i n hn i (by omega) _ (hB i (by omega)), nI_1]
    refine ih (i + 1) _ _ _ _ _ _ (by omega) (fun u hu => ?_) (fun u a b => ?_)
    · by_cases e : u = i
      · subst e; rw [upd_in]
      · rw [upd_out e]; exact g1 u (by omega)
    · rw [upd_out (by omega)]; exact g2 u (by omega) b
theorem other_frm {n c : Nat} (hn : n ≤ 6) : frm n (dkM n c) (fun u => cmr n u (byM n c u)) = frm n (dkM n (c ^^^ aeM n)) (byM n (c ^^^ aeM n)) := by
  obtain ⟨e1, e2⟩ := ae_at n hn
  refine (frm_congr (fun l hl => cod_congr (fun v hv => ?_) (fun v hv u hu => ?_))).1
  · have hv := lex_mem hl v hv
    rw [dkM_tb, dkM_tb]
    unfold dkb
    rw [Nat.testBit_xor, e1 v hv, Bool.xor_false]
  · have hv := lex_mem hl v hv
    have hu := lex_mem hl u hu
    show (cmr n v (byM n c v)).testBit u = _
    unfold cmr
    rw [mask_tb, byM_tb, byM_tb, decide_eq_true hu, Bool.true_and, Bool.true_and, Bool.true_and]
    unfold egb
    by_cases e : v = u
    · subst e; simp
    · have hm : (aeM n).testBit (LN n - 2 - LN (max v u) - min v u) = true := e2 _ (by omega) _ (by omega)
      rw [Nat.testBit_xor, hm, Bool.xor_true]
      simp [e, Ne.symm e]
theorem lc13 (xs : Nat → Int32) (L : Nat) (hL3 : L ≤ 3072) : LC13 xs L IInv := by
  unfold LC13
  intro x4 m_begin m_dark m_end m_faultAt m_form m_hasImage m_heldDark m_lasts m_nodes m_pairs m_point m_symmetries m_taped m_thrown m_toldEdges m_toldForm m_toldNodes m_toldSymmetries m_writtenMany m_by m_decks m_draft m_firstOrder m_five m_forms m_held m_image m_many m_order m_seen m_tape m_toldOrder m_world m_written o x_hasImage x_cycleSums_edges x_cycleSums_hasDark x_cycleSums_parts x_cycleSums_ways x_decks x_draft_bannedCircles x_draft_endLines x_draft_endsJoined x_draft_fewestEdges x_draft_hasDark x_draft_least x_draft_most x_draft_mostEdges x_draft_patterns x_draft_ruleLines x_draft_size x_draft_unlike x_draft_words x_draft_patternCodes x_draft_patternNodes x_forms_allBits x_forms_firstOrder x_forms_isBeaten x_forms_isStudy x_forms_isTest x_forms_least x_forms_nodes x_forms_order x_forms_seen x_forms_stillEdges x_forms_symmetries x_forms_sketch_colours x_forms_sketch_darks x_forms_sketch_nodes x_forms_sketch_fans x_forms_sketch_near x_keptLevels_total x_keptLevels_codes x_keptLevels_firsts x_keptRules_bannedCircles x_keptRules_endLines x_keptRules_endsJoined x_keptRules_fewestEdges x_keptRules_hasDark x_keptRules_least x_keptRules_most x_keptRules_mostEdges x_keptRules_patterns x_keptRules_ruleLines x_keptRules_size x_keptRules_unlike x_keptRules_words x_keptRules_patternCodes x_keptRules_patternNodes x_keptWalkers_allParts x_keptWalkers_depths x_keptWalkers_lists x_keptWalkers_ownParts x_levels_total x_levels_codes x_levels_firsts x_match_best x_match_code x_match_one_colours x_match_one_darks x_match_one_nodes x_match_one_fans x_match_one_near x_match_two_colours x_match_two_darks x_match_two_nodes x_match_two_fans x_match_two_near x_page_length x_page_bytes x_rules_bannedCircles x_rules_endLines x_rules_endsJoined x_rules_fewestEdges x_rules_hasDark x_rules_least x_rules_most x_rules_mostEdges x_rules_patterns x_rules_ruleLines x_rules_size x_rules_unlike x_rules_words x_rules_patternCodes x_rules_patternNodes x_sketch_colours x_sketch_darks x_sketch_nodes x_sketch_fans x_sketch_near x_tape_begun x_tape_length x_tape_position x_tape_wrong x_tape_bytes x_texts_code x_texts_nodes x_toldForms_allBits x_toldForms_firstOrder x_toldForms_isBeaten x_toldForms_isStudy x_toldForms_isTest x_toldForms_least x_toldForms_nodes x_toldForms_order x_toldForms_seen x_toldForms_stillEdges x_toldForms_symmetries x_toldForms_sketch_colours x_toldForms_sketch_darks x_toldForms_sketch_nodes x_toldForms_sketch_fans x_toldForms_sketch_near x_walkers_allParts x_walkers_depths x_walkers_lists x_walkers_ownParts hx0 hxL hI
  obtain ⟨k, hT, hK, hW, hG, hD, hO, hP⟩ := hI
  obtain ⟨hk, hw, ⟨q1, q2, q3, q4, q5, q6, q7, q8, q9, q10, q11, q12, hp⟩, hL, hU⟩ := hK
  subst q1 q2 q3 q4 q5 q6 q7 q8 q9 q10 q11 q12
  have hsz := size_le hk
  have a1 := arg_in hx0 hxL (by omega) (j := 1) (by omega)
  have a2 := arg_in hx0 hxL (by omega) (j := 2) (by omega)
  have a3 := arg_in hx0 hxL (by omega) (j := 3) (by omega)
  have a4 := arg_in hx0 hxL (by omega) (j := 4) (by omega)
  have a5 := arg_in hx0 hxL (by omega) (j := 5) (by omega)
  have o0 := vp_in_nI (n := 0) (N := 1) (by decide) (by decide)
  
  unfold F_law_c13 F_L_other F_law_c13_1162
  refine ⟨a1, a2, ?_⟩
  generalize xs (x4 + 1).toNatClampNeg = p1
  generalize xs (x4 + 2).toNatClampNeg = p2
  unfold F_X11_other F_X12_other F_X12_thrown
  rcases net_q hk p1 p2 with h | ⟨n, i, h1, h2, rfl, hi, rfl⟩
  · exact x_needNet_n hk hL h ⟨rfl, a1, a2, f_noNet_n hk hw hU h (br2 (by decide) (law_fin rfl (fun e => absurd e (by decide)) ⟨rfl, k, hT, ⟨hk, hw, ⟨rfl, rfl, rfl, rfl, rfl, rfl, rfl, rfl, rfl, rfl, rfl, rfl, hp⟩, hL, hU⟩, hW, hG, hD, hO, hP⟩))⟩
  · have hc := lvl_get hk h1 h2 hi
    have n6 : n ≤ 6 := by omega
    have hx : (lvl k n).getD i 0 ^^^ aeM n < 2 ^ LN n := Nat.xor_lt_two_pow hc.2.1 (aeM_lt n n6)
    refine x_needNet_y hk hL h1 h2 hi (f_allEdges n6 ?_)
    rw [ni_xor]
    refine f_leastOf n6 hx hO.1 (fun ab fo ib is' it le nn od se sl sy cl dk' sn fans near hF => ?_)
    have hfl : frm n (dkM n ((lvl k n).getD i 0 ^^^ aeM n)) (byM n ((lvl k n).getD i 0 ^^^ aeM n)) < 2 ^ 31 := by
      obtain ⟨q, hq, e⟩ := frm_at (n := n) (D := dkM n ((lvl k n).getD i 0 ^^^ aeM n)) (B := byM n ((lvl k n).getD i 0 ^^^ aeM n))
      rw [← e]
      have := cod_lt (dkM n ((lvl k n).getD i 0 ^^^ aeM n)) (byM n ((lvl k n).getD i 0 ^^^ aeM n)) q
      rw [lex_mem_len hq] at this
      have := Nat.lt_of_lt_of_le this (Nat.pow_le_pow_right (by decide) (LN_mono n6))
      have e6 : LN 6 = 21 := rfl
      rw [e6] at this
      exact Nat.lt_trans this (by decide)
    refine f_numberOf hk hL h1 n6 hfl ⟨o0, a1, a2, f_noNet_y hk hw hU h1 h2 hi (br1 rfl (f_takes hk hU h1 h2 hi (fun dark nodes by' hG => ?_)))⟩
    obtain ⟨rfl, rfl, _, hb⟩ := hG
    have hO : ordOk od ∧ ordOk x_toldForms_order := ⟨hF.2.2.2.2.1, hO.2⟩
    refine ⟨n + 1, f_other19 (B := byM n ((lvl k n).getD i 0)) hk hU h1 n6 (dkM64 n6) (fun u _ => byM64 n6) (fun d f l nn s b o1 o2 => ?_) n 0 _ _ _ _ _ _ (by omega) (fun u hu => absurd hu (Nat.not_lt_zero _)) (fun u _ hu => (hb u hu).1)⟩
    rw [other_frm n6]
    exact law_fin rfl (fun _ => updL_in) ⟨rfl, k, hT, ⟨hk, hw, ⟨rfl, rfl, rfl, rfl, rfl, rfl, rfl, rfl, rfl, rfl, rfl, rfl, hp⟩, hL, hU⟩, hW, hG, hD, hO, hP⟩
