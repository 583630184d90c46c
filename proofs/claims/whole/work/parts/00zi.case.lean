/-! numbers told and refused, on both sides -/
theorem rng (p : Int32) {a b : Nat} (ha : a < 2 ^ 31) (hb : b < 2 ^ 31) : (p < nI a ∨ nI b < p) ∨ ∃ n, a ≤ n ∧ n ≤ b ∧ p = nI n := by
  by_cases h1 : p < nI a
  · exact Or.inl (Or.inl h1)
  · by_cases h2 : nI b < p
    · exact Or.inl (Or.inr h2)
    · right
      have g1 : ¬ p < 0 := by
        intro h
        apply h1
        rw [Int32.lt_iff_toInt_lt] at h ⊢
        rw [nI_toInt ha]
        have : (0 : Int32).toInt = 0 := by decide
        omega
      obtain ⟨j, hj, rfl⟩ := nI_of g1
      exact ⟨j, Nat.le_of_not_lt (fun e => h1 (nI_lt e ha)), Nat.le_of_not_lt (fun e => h2 (nI_lt e hj)), rfl⟩
theorem f_in_y {a n b : Nat} (h1 : a ≤ n) (h2 : n ≤ b) (hb : b < 2 ^ 31) {post : Int32 → Prop} (K : post 1) : F_X12_in (nI n) (nI a) (nI b) post := by
  unfold F_X12_in F_X12_in_15
  exact br2 (nI_nlt h1 (by omega)) (br2 (nI_nlt h2 hb) ⟨by decide, K⟩)
theorem f_in_n {p lo hi : Int32} (h : p < lo ∨ hi < p) {post : Int32 → Prop} (K : post 0) : F_X12_in p lo hi post := by
  unfold F_X12_in F_X12_in_14 F_X12_in_15
  refine ⟨fun _ => ⟨by decide, K⟩, fun g => br1 ?_ ⟨by decide, K⟩⟩
  rcases h with h | h
  · exact absurd h g
  · exact h
theorem f_throws0 {th p2 : Int32} {post : Int32 → Int32 → Prop} (K : post 0 th) : F_X12_throwsIf th 0 p2 post := by
  unfold F_X12_throwsIf F_X12_throwsIf_9
  exact br1 rfl ⟨by decide, K⟩
theorem f_throws1 {th p2 : Int32} {post : Int32 → Int32 → Prop} (K : post 1 p2) : F_X12_throwsIf th 1 p2 post := by
  unfold F_X12_throwsIf F_X12_throwsIf_9
  exact br2 (by decide) ⟨by decide, K⟩
def NoLv (k : KD) (p : Int32) : Prop := p < nI 1 ∨ nI (kSz k) < p
theorem f_noLevel_y {k : KD} (hk : KOk k) {w : Nat → Int32} (hw : WR k w) {th : Int32} {n : Nat} (h1 : 1 ≤ n) (h2 : n ≤ kSz k) {post : Int32 → Int32 → Prop} (K : post 0 0) : F_X12_noLevel w th (nI n) post := by
  have := size_le hk
  unfold F_X12_noLevel F_X12_noLevel_25
  refine ⟨vp_in_nI (n := 0) (by decide) (by decide), ?_⟩
  have e : w (0 : Int32).toNatClampNeg = nI (kSz k) := hw.1
  rw [e]
  exact f_in_y (a := 1) h1 h2 (by omega) (br3 (by decide) (f_throws0 ⟨by decide, K⟩))
theorem f_noLevel_n {k : KD} {w : Nat → Int32} (hw : WR k w) {th p : Int32} (h : NoLv k p) {post : Int32 → Int32 → Prop} (K : post 1 1) : F_X12_noLevel w th p post := by
  unfold F_X12_noLevel F_X12_noLevel_25
  refine ⟨vp_in_nI (n := 0) (by decide) (by decide), ?_⟩
  have e : w (0 : Int32).toNatClampNeg = nI (kSz k) := hw.1
  rw [e]
  exact f_in_n h (br4 rfl (f_throws1 ⟨by decide, K⟩))
theorem x_needLevel_y {n s : Nat} (h1 : 1 ≤ n) (h2 : n ≤ s) (hs : s < 2 ^ 31) {post : Prop} {postx : String → Prop} (K : post) : F_X11_needLevel (nI s) (nI n) post postx := by
  unfold F_X11_needLevel
  exact br2 (nI_nlt (b := 1) h1 (by omega)) (br1 (nI_le h2 hs) K)
theorem x_needLevel_n {k : KD} {p : Int32} (h : NoLv k p) {post : Prop} {postx : String → Prop} (K : postx "java/lang/IndexOutOfBoundsException") : F_X11_needLevel (nI (kSz k)) p post postx := by
  unfold F_X11_needLevel F_X11_needLevel_16
  refine ⟨fun _ => K, fun g => br2 ?_ K⟩
  rcases h with h | h
  · exact absurd h g
  · intro e
    rw [Int32.lt_iff_toInt_lt] at h
    rw [Int32.le_iff_toInt_le] at e
    omega
def NoNet (k : KD) (p q : Int32) : Prop := NoLv k p ∨ ∃ n, 1 ≤ n ∧ n ≤ kSz k ∧ p = nI n ∧ (q < 0 ∨ ¬ q < nI (lvl k n).length)
theorem net_q {k : KD} (hk : KOk k) (p q : Int32) : NoNet k p q ∨ ∃ n i, 1 ≤ n ∧ n ≤ kSz k ∧ p = nI n ∧ i < (lvl k n).length ∧ q = nI i := by
  have := size_le hk
  rcases rng p (a := 1) (b := kSz k) (by decide) (by omega) with h | ⟨n, h1, h2, rfl⟩
  · exact Or.inl (Or.inl h)
  · have hl := lvl_len k n (by omega)
    by_cases g : q < 0
    · exact Or.inl (Or.inr ⟨n, h1, h2, rfl, Or.inl g⟩)
    · by_cases g2 : q < nI (lvl k n).length
      · obtain ⟨j, hj, rfl⟩ := nI_of g
        exact Or.inr ⟨n, j, h1, h2, rfl, (nI_ltI hj (by omega)).mp g2, rfl⟩
      · exact Or.inl (Or.inr ⟨n, h1, h2, rfl, Or.inr g2⟩)
theorem many_at {k : KD} {forms many : Nat → Int32} (hU : LvUp k 7 forms many) {n : Nat} (h1 : 1 ≤ n) (h2 : n ≤ 6) : many (nI n).toNatClampNeg = nI (lvl k n).length := by
  rw [nI_clamp (by omega)]; exact (hU n h1 (by omega)).1
theorem f_noNet_y {k : KD} (hk : KOk k) {w forms many : Nat → Int32} (hw : WR k w) (hU : LvUp k 7 forms many) {th : Int32} {n i : Nat} (h1 : 1 ≤ n) (h2 : n ≤ kSz k) (hi : i < (lvl k n).length) {post : Int32 → Int32 → Prop} (K : post 0 0) : F_X12_noNet many w th (nI n) (nI i) post := by
  have := size_le hk
  have hl := lvl_len k n (by omega)
  unfold F_X12_noNet F_X12_noNet_42 F_X12_noNet_37 F_X12_noNet_30
  refine f_noLevel_y hk hw h1 h2 (br4 rfl ⟨vp_in_nI (by omega) (by decide), ?_⟩)
  rw [many_at hU h1 (by omega)]
  have e : nI (lvl k n).length - 1 = nI ((lvl k n).length - 1) := by show nI _ - nI 1 = _; rw [ni_sub (by omega)]
  rw [e]
  exact f_in_y (a := 0) (by omega) (by omega) (by omega) (br3 (by decide) (f_throws0 (br1 rfl ⟨by decide, K⟩)))
theorem f_noNet_n {k : KD} (hk : KOk k) {w forms many : Nat → Int32} (hw : WR k w) (hU : LvUp k 7 forms many) {th p q : Int32} (h : NoNet k p q) {post : Int32 → Int32 → Prop} (K : post 1 1) : F_X12_noNet many w th p q post := by
  have := size_le hk
  unfold F_X12_noNet F_X12_noNet_42 F_X12_noNet_37 F_X12_noNet_30
  rcases h with h | ⟨n, h1, h2, rfl, h⟩
  · exact f_noLevel_n hw h (br3 (by decide) ⟨by decide, K⟩)
  · have hl := lvl_len k n (by omega)
    refine f_noLevel_y hk hw h1 h2 (br4 rfl ⟨vp_in_nI (by omega) (by decide), ?_⟩)
    rw [many_at hU h1 (by omega)]
    refine f_in_n ?_ (br4 rfl (f_throws1 (br2 (by decide) ⟨by decide, K⟩)))
    rcases h with h | h
    · exact Or.inl h
    · right
      have e : (nI (lvl k n).length - 1).toInt = (lvl k n).length - 1 := by
        rw [Int32.toInt_sub, nI_toInt (by omega)]
        have : (1 : Int32).toInt = 1 := by decide
        rw [this]
        apply Int.bmod_eq_of_le <;> omega
      rw [Int32.lt_iff_toInt_lt] at h ⊢
      rw [nI_toInt (by omega)] at h
      omega
theorem lv_codes {k : KD} {total : Int32} {codes firsts : Nat → Int32} (hL : LvX k total codes firsts) {n i : Nat} (h1 : 1 ≤ n) (h2 : n ≤ 6) (hi : i < (lvl k n).length) : codes (off k n + i) = nI ((lvl k n).getD i 0) ∧ off k n + i < 662 := by
  have e1 := off_succ k h1
  have e2 := off_mono k (a := n + 1) (b := 7) (by omega) (by omega)
  have e3 := off_7 k
  exact ⟨hL.2.2.1 n h1 (by omega) i hi, by omega⟩
theorem x_needNet_y {k : KD} (hk : KOk k) {total : Int32} {codes firsts : Nat → Int32} (hL : LvX k total codes firsts) {n i : Nat} (h1 : 1 ≤ n) (h2 : n ≤ kSz k) (hi : i < (lvl k n).length) {post : Int32 → Prop} {postx : String → Prop} (K : post (nI ((lvl k n).getD i 0))) : F_X11_needNet total codes firsts (nI (kSz k)) (nI n) (nI i) post postx := by
  have := size_le hk
  have hl := lvl_len k n (by omega)
  obtain ⟨c1, c2⟩ := lv_codes hL h1 (by omega) hi
  unfold F_X11_needNet
  refine x_needLevel_y h1 h2 (by omega) (br2 (nI_pos (by omega)) (f_amount hL.2.1 h1 (by omega) (by omega) (br1 (nI_lt hi (by omega)) ?_)))
  exact f_codeOfI hL.2.1 h1 (by omega) (by omega) c1 c2 K
theorem x_needNet_n {k : KD} (hk : KOk k) {total : Int32} {codes firsts : Nat → Int32} (hL : LvX k total codes firsts) {p q : Int32} (h : NoNet k p q) {post : Int32 → Prop} {postx : String → Prop} (K : postx "java/lang/IndexOutOfBoundsException") : F_X11_needNet total codes firsts (nI (kSz k)) p q post postx := by
  have := size_le hk
  unfold F_X11_needNet F_X11_needNet_21
  rcases h with h | ⟨n, h1, h2, rfl, h⟩
  · exact x_needLevel_n h K
  · refine x_needLevel_y h1 h2 (by omega) ⟨fun _ => K, fun g => f_amount hL.2.1 h1 (by omega) (by omega) ?_⟩
    rcases h with h | h
    · exact absurd h g
    · exact br2 h K
theorem node_q (n : Nat) (hn : n < 2 ^ 31) (v : Int32) : (v < 0 ∨ ¬ v < nI n) ∨ ∃ a, a < n ∧ v = nI a := by
  by_cases g : v < 0
  · exact Or.inl (Or.inl g)
  · by_cases g2 : v < nI n
    · obtain ⟨j, hj, rfl⟩ := nI_of g
      exact Or.inr ⟨j, (nI_ltI hj hn).mp g2, rfl⟩
    · exact Or.inl (Or.inr g2)
theorem x_needNode_y {n a : Nat} (ha : a < n) (hn : n < 2 ^ 31) {post : Prop} {postx : String → Prop} (K : post) : F_X11_needNode (nI n) (nI a) post postx := by
  unfold F_X11_needNode
  exact br2 (nI_pos (by omega)) (br1 (nI_lt ha hn) K)
theorem x_needNode_n {n : Nat} {v : Int32} (h : v < 0 ∨ ¬ v < nI n) {post : Prop} {postx : String → Prop} (K : postx "java/lang/IndexOutOfBoundsException") : F_X11_needNode (nI n) v post postx := by
  unfold F_X11_needNode F_X11_needNode_9
  refine ⟨fun _ => K, fun g => br2 ?_ K⟩
  rcases h with h | h
  · exact absurd h g
  · exact h
theorem f_noNode_y {k : KD} (hk : KOk k) {w forms many : Nat → Int32} (hw : WR k w) (hU : LvUp k 7 forms many) {th : Int32} {n i a : Nat} (h1 : 1 ≤ n) (h2 : n ≤ kSz k) (hi : i < (lvl k n).length) (ha : a < n) {post : Int32 → Int32 → Prop} (K : post 0 0) : F_X12_noNode many w th (nI n) (nI i) (nI a) post := by
  have := size_le hk
  unfold F_X12_noNode F_X12_noNode_38 F_X12_noNode_33 F_X12_noNode_26
  have e : nI n - 1 = nI (n - 1) := by show nI _ - nI 1 = _; rw [ni_sub (by omega)]
  rw [e]
  exact f_noNet_y hk hw hU h1 h2 hi (br4 rfl (f_in_y (a := 0) (by omega) (by omega) (by omega) (br3 (by decide) (f_throws0 (br1 rfl ⟨by decide, K⟩)))))
theorem f_noNode_n {k : KD} (hk : KOk k) {w forms many : Nat → Int32} (hw : WR k w) (hU : LvUp k 7 forms many) {th p q v : Int32} (h : NoNet k p q ∨ ∃ n i, 1 ≤ n ∧ n ≤ kSz k ∧ p = nI n ∧ i < (lvl k n).length ∧ q = nI i ∧ (v < 0 ∨ ¬ v < nI n)) {post : Int32 → Int32 → Prop} (K : post 1 1) : F_X12_noNode many w th p q v post := by
  have := size_le hk
  unfold F_X12_noNode F_X12_noNode_38 F_X12_noNode_33 F_X12_noNode_26
  rcases h with h | ⟨n, i, h1, h2, rfl, hi, rfl, h⟩
  · exact f_noNet_n hk hw hU h (br3 (by decide) ⟨by decide, K⟩)
  · have e : nI n - 1 = nI (n - 1) := by show nI _ - nI 1 = _; rw [ni_sub (by omega)]
    rw [e]
    refine f_noNet_y hk hw hU h1 h2 hi (br4 rfl (f_in_n ?_ (br4 rfl (f_throws1 (br2 (by decide) ⟨by decide, K⟩)))))
    rcases h with h | h
    · exact Or.inl h
    · right
      rw [Int32.lt_iff_toInt_lt] at h ⊢
      rw [nI_toInt (by omega)] at h ⊢
      omega
/-! calls that answer what is held -/
theorem lc4 (xs : Nat → Int32) (L : Nat) (hL3 : L ≤ 3072) : LC4 xs L IInv := by
  unfold LC4
  intro x4 m_begin m_dark m_end m_faultAt m_form m_hasImage m_heldDark m_lasts m_nodes m_pairs m_point m_symmetries m_taped m_thrown m_toldEdges m_toldForm m_toldNodes m_toldSymmetries m_writtenMany m_by m_decks m_draft m_firstOrder m_five m_forms m_held m_image m_many m_order m_seen m_tape m_toldOrder m_world m_written o x_hasImage x_cycleSums_edges x_cycleSums_hasDark x_cycleSums_parts x_cycleSums_ways x_decks x_draft_bannedCircles x_draft_endLines x_draft_endsJoined x_draft_fewestEdges x_draft_hasDark x_draft_least x_draft_most x_draft_mostEdges x_draft_patterns x_draft_ruleLines x_draft_size x_draft_unlike x_draft_words x_draft_patternCodes x_draft_patternNodes x_forms_allBits x_forms_firstOrder x_forms_isBeaten x_forms_isStudy x_forms_isTest x_forms_least x_forms_nodes x_forms_order x_forms_seen x_forms_stillEdges x_forms_symmetries x_forms_sketch_colours x_forms_sketch_darks x_forms_sketch_nodes x_forms_sketch_fans x_forms_sketch_near x_keptLevels_total x_keptLevels_codes x_keptLevels_firsts x_keptRules_bannedCircles x_keptRules_endLines x_keptRules_endsJoined x_keptRules_fewestEdges x_keptRules_hasDark x_keptRules_least x_keptRules_most x_keptRules_mostEdges x_keptRules_patterns x_keptRules_ruleLines x_keptRules_size x_keptRules_unlike x_keptRules_words x_keptRules_patternCodes x_keptRules_patternNodes x_keptWalkers_allParts x_keptWalkers_depths x_keptWalkers_lists x_keptWalkers_ownParts x_levels_total x_levels_codes x_levels_firsts x_match_best x_match_code x_match_one_colours x_match_one_darks x_match_one_nodes x_match_one_fans x_match_one_near x_match_two_colours x_match_two_darks x_match_two_nodes x_match_two_fans x_match_two_near x_page_length x_page_bytes x_rules_bannedCircles x_rules_endLines x_rules_endsJoined x_rules_fewestEdges x_rules_hasDark x_rules_least x_rules_most x_rules_mostEdges x_rules_patterns x_rules_ruleLines x_rules_size x_rules_unlike x_rules_words x_rules_patternCodes x_rules_patternNodes x_sketch_colours x_sketch_darks x_sketch_nodes x_sketch_fans x_sketch_near x_tape_begun x_tape_length x_tape_position x_tape_wrong x_tape_bytes x_texts_code x_texts_nodes x_toldForms_allBits x_toldForms_firstOrder x_toldForms_isBeaten x_toldForms_isStudy x_toldForms_isTest x_toldForms_least x_toldForms_nodes x_toldForms_order x_toldForms_seen x_toldForms_stillEdges x_toldForms_symmetries x_toldForms_sketch_colours x_toldForms_sketch_darks x_toldForms_sketch_nodes x_toldForms_sketch_fans x_toldForms_sketch_near x_walkers_allParts x_walkers_depths x_walkers_lists x_walkers_ownParts hx0 hxL hI
  obtain ⟨k, hT, hK, hW, hG, hD, hO, hP⟩ := hI
  unfold F_law_c4 F_X11_fault F_X12_fault
  exact ⟨fun _ => ⟨rfl, k, hT, hK, hW, hG, hD, hO, hP⟩, fun g => g hT.2.1⟩
theorem lc5 (xs : Nat → Int32) (L : Nat) (hL3 : L ≤ 3072) : LC5 xs L IInv := by
  unfold LC5
  intro x4 m_begin m_dark m_end m_faultAt m_form m_hasImage m_heldDark m_lasts m_nodes m_pairs m_point m_symmetries m_taped m_thrown m_toldEdges m_toldForm m_toldNodes m_toldSymmetries m_writtenMany m_by m_decks m_draft m_firstOrder m_five m_forms m_held m_image m_many m_order m_seen m_tape m_toldOrder m_world m_written o x_hasImage x_cycleSums_edges x_cycleSums_hasDark x_cycleSums_parts x_cycleSums_ways x_decks x_draft_bannedCircles x_draft_endLines x_draft_endsJoined x_draft_fewestEdges x_draft_hasDark x_draft_least x_draft_most x_draft_mostEdges x_draft_patterns x_draft_ruleLines x_draft_size x_draft_unlike x_draft_words x_draft_patternCodes x_draft_patternNodes x_forms_allBits x_forms_firstOrder x_forms_isBeaten x_forms_isStudy x_forms_isTest x_forms_least x_forms_nodes x_forms_order x_forms_seen x_forms_stillEdges x_forms_symmetries x_forms_sketch_colours x_forms_sketch_darks x_forms_sketch_nodes x_forms_sketch_fans x_forms_sketch_near x_keptLevels_total x_keptLevels_codes x_keptLevels_firsts x_keptRules_bannedCircles x_keptRules_endLines x_keptRules_endsJoined x_keptRules_fewestEdges x_keptRules_hasDark x_keptRules_least x_keptRules_most x_keptRules_mostEdges x_keptRules_patterns x_keptRules_ruleLines x_keptRules_size x_keptRules_unlike x_keptRules_words x_keptRules_patternCodes x_keptRules_patternNodes x_keptWalkers_allParts x_keptWalkers_depths x_keptWalkers_lists x_keptWalkers_ownParts x_levels_total x_levels_codes x_levels_firsts x_match_best x_match_code x_match_one_colours x_match_one_darks x_match_one_nodes x_match_one_fans x_match_one_near x_match_two_colours x_match_two_darks x_match_two_nodes x_match_two_fans x_match_two_near x_page_length x_page_bytes x_rules_bannedCircles x_rules_endLines x_rules_endsJoined x_rules_fewestEdges x_rules_hasDark x_rules_least x_rules_most x_rules_mostEdges x_rules_patterns x_rules_ruleLines x_rules_size x_rules_unlike x_rules_words x_rules_patternCodes x_rules_patternNodes x_sketch_colours x_sketch_darks x_sketch_nodes x_sketch_fans x_sketch_near x_tape_begun x_tape_length x_tape_position x_tape_wrong x_tape_bytes x_texts_code x_texts_nodes x_toldForms_allBits x_toldForms_firstOrder x_toldForms_isBeaten x_toldForms_isStudy x_toldForms_isTest x_toldForms_least x_toldForms_nodes x_toldForms_order x_toldForms_seen x_toldForms_stillEdges x_toldForms_symmetries x_toldForms_sketch_colours x_toldForms_sketch_darks x_toldForms_sketch_nodes x_toldForms_sketch_fans x_toldForms_sketch_near x_walkers_allParts x_walkers_depths x_walkers_lists x_walkers_ownParts hx0 hxL hI
  obtain ⟨k, hT, hK, hW, hG, hD, hO, hP⟩ := hI
  obtain ⟨hk, hw, ⟨q1, q2, q3, q4, q5, q6, q7, q8, q9, q10, q11, q12, hp⟩, hL, hU⟩ := hK
  subst q1 q2 q3 q4 q5 q6 q7 q8 q9 q10 q11 q12
  have hsz := size_le hk
  have a1 := arg_in hx0 hxL (by omega) (j := 1) (by omega)
  have a2 := arg_in hx0 hxL (by omega) (j := 2) (by omega)
  have a3 := arg_in hx0 hxL (by omega) (j := 3) (by omega)
  have a4 := arg_in hx0 hxL (by omega) (j := 4) (by omega)
  have a5 := arg_in hx0 hxL (by omega) (j := 5) (by omega)
  have o0 := vp_in_nI (n := 0) (N := 1) (by decide) (by decide)
  
  unfold F_law_c5 F_L_level F_law_c5_452
  refine ⟨a1, ?_⟩
  generalize xs (x4 + 1).toNatClampNeg = p
  unfold F_X11_level F_X12_level F_X12_level_18 F_X12_thrown
  rcases rng p (a := 1) (b := kSz k) (by decide) (by omega) with h | ⟨n, h1, h2, rfl⟩
  · refine x_needLevel_n h ⟨rfl, a1, f_noLevel_n hw h (br2 (by decide) (law_fin rfl (fun e => absurd e (by decide)) ?_))⟩
    exact ⟨rfl, k, hT, ⟨hk, hw, ⟨rfl, rfl, rfl, rfl, rfl, rfl, rfl, rfl, rfl, rfl, rfl, rfl, hp⟩, hL, hU⟩, hW, hG, hD, hO, hP⟩
  · refine x_needLevel_y h1 h2 (by omega) (f_amount hL.2.1 h1 (by omega) (by omega) ⟨o0, a1, f_noLevel_y hk hw h1 h2 (br1 rfl ⟨vp_in_nI (by omega) (by decide), ?_⟩)⟩)
    rw [many_at hU h1 (by omega)]
    refine law_fin rfl (fun _ => updL_in) ?_
    exact ⟨rfl, k, hT, ⟨hk, hw, ⟨rfl, rfl, rfl, rfl, rfl, rfl, rfl, rfl, rfl, rfl, rfl, rfl, hp⟩, hL, hU⟩, hW, hG, hD, hO, hP⟩
