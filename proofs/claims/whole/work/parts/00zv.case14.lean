def uP (n c k : Nat) : Nat := (List.range k).foldl (fun s v => if lsO (ags n (dkM n c) (byM n c)) v n 0 == some v then s + 1 else s) 0
def oP (n c k : Nat) : Nat := (List.range k).foldl (fun s v => if lkF (ags n (dkM n c) (byM n c)) (posF ((ags n (dkM n c) (byM n c)).headD []) v) &&& (2 ^ v - 1) == 0 then s + 1 else s) 0
theorem uP_succ (n c k : Nat) : uP n c (k + 1) = if lsO (ags n (dkM n c) (byM n c)) k n 0 == some k then uP n c k + 1 else uP n c k := by
  unfold uP
  rw [List.range_succ, List.foldl_append]
  rfl
theorem oP_succ (n c k : Nat) : oP n c (k + 1) = if lkF (ags n (dkM n c) (byM n c)) (posF ((ags n (dkM n c) (byM n c)).headD []) k) &&& (2 ^ k - 1) == 0 then oP n c k + 1 else oP n c k := by
  unfold oP
  rw [List.range_succ, List.foldl_append]
  rfl
theorem u_eq_o {n c : Nat} {dk : Bool} (h1 : 1 ≤ n) (h2 : n ≤ (if dk then 5 else 6)) (hc : c ∈ CT n dk) : uP n c n = oP n c n := by
  have h := chO_A h1 h2 hc
  unfold chO2 at h
  simp only [Bool.and_eq_true] at h
  exact beq_iff_eq.mp h.1.2
theorem f_unlikeNodes {n c : Nat} {dk : Bool} (h1 : 1 ≤ n) (h2 : n ≤ (if dk then 5 else 6)) (hc : c ∈ CT n dk) {ab : Int32} {fo : Int64} {ib : Int32} {is' : Int32} {it : Int32} {le : Int32} {nn : Int32} {od : Int64} {se : Int64} {sl : Int32} {sy : Int32} {cl : Int64} {dk' : Int32} {sn : Int32} {fans : (Nat → Int64)} {near : (Nat → Int32)} (ho : ordOk od) {post : Int32 → Int32 → Int64 → Int32 → Int32 → Int32 → Int32 → Int32 → Int64 → Int64 → Int32 → Int32 → Int64 → Int32 → Int32 → (Nat → Int64) → (Nat → Int32) → Prop} (K : ∀ ab fo ib is' it le nn od se sl sy cl dk' sn fans near, ordOk od → post (nI (uP n c n)) ab fo ib is' it le nn od se sl sy cl dk' sn fans near) : F_X2_unlikeNodes ab fo ib is' it le nn od se sl sy cl dk' sn fans near (nI n) (nI c) post := by
  have hn : n ≤ 6 := by cases dk <;> simp at h2 <;> omega
  unfold F_X2_unlikeNodes
  refine f_study hn (CT_lt h1 h2 hc) ho (fun ab fo ib is' it le nn od se sl sy cl dk' sn fans near hF => ⟨n + 1, ?_⟩)
  obtain ⟨_, e2, e3, e4, hod, hFS, _⟩ := hF
  have hs := (hFS.2 (ags_ne _ _ _)).2.2 (by decide)
  subst e4
  rw [hs.1]
  have main : ∀ j v, v + j = n → F_X2_unlikeNodes_11 post (j + 1) (nI (uP n c v)) (nI v) ab fo ib is' it le (nI n) od (lN (snA n (ags n (dkM n c) (byM n c)))) sl sy cl dk' sn fans near := by
    intro j
    induction j with
    | zero =>
      intro v hv
      have : v = n := by omega
      subst this
      unfold F_X2_unlikeNodes_11
      exact br1 (Int32.le_refl _) (K _ _ _ _ _ _ _ _ _ _ _ _ _ _ _ _ hod)
    | succ j ih =>
      intro v hv
      have ih := ih (v + 1) (by omega)
      rw [uP_succ] at ih
      obtain ⟨hM, r, hr⟩ := orb_some (D := dkM n c) (B := byM n c) hn (show v < n by omega)
      have hf := orb_facts h1 h2 hc (show v < n by omega)
      unfold F_X2_unlikeNodes_11 F_X2_unlikeNodes_34
      refine br2 (nI_ge (by omega) (by omega)) (f_leastSeenWith hn (sn_eq hn (show v < n by omega) (ags_get hn)).1 (by omega) ?_)
      rw [ls_eq (fun p hp => (sn_eq hn hp (ags_get hn)).2) n 0 (by omega)]
      rw [hf, hr] at ih ⊢
      have hr6 : r < 31 := by
        have : ∀ (x : Nat) (j i r : Nat), lwF x j i = some r → r < i + j := by
          intro x j
          induction j with
          | zero => intro i r h; simp [lwF] at h
          | succ j ih =>
            intro i r h
            rw [lwF] at h
            split at h
            · simp at h; omega
            · have := ih (i + 1) r h; omega
        have := this _ _ _ _ hr
        omega
      rw [nI_1]
      by_cases e : r = v
      · subst e
        rw [if_pos (by simp)] at ih
        refine br4 rfl ?_
        rw [nI_1]
        exact ih
      · rw [if_neg (by simp [e])] at ih
        exact br3 (fun g => e (ni_inj (by omega) (by omega) g)) ih
  exact main n 0 (by omega)
theorem f_orbits {k : KD} (hk : KOk k) {forms many : Nat → Int32} (hU : LvUp k 7 forms many) {dk nn fm la sy : Int32} {by0 fo od : Nat → Int32} {n i : Nat} (h1 : 1 ≤ n) (h2 : n ≤ kSz k) (hi : i < (lvl k n).length) {post : Int32 → Int32 → Int32 → Int32 → Int32 → Int32 → (Nat → Int32) → (Nat → Int32) → (Nat → Int32) → Prop} (K : ∀ d f l nn s b o1 o2, post (nI (oP n ((lvl k n).getD i 0) n)) d f l nn s b o1 o2) : F_X12_orbits forms dk fm la nn sy by0 fo od (nI n) (nI i) post := by
  have hsz := size_le hk
  have n6 : n ≤ 6 := by omega
  unfold F_X12_orbits
  refine ⟨n + 1, ?_⟩
  have main : ∀ j v d f l nn s b o1 o2, v + j = n → F_X12_orbits_5 forms post (j + 1) (nI n) (nI i) (nI (oP n ((lvl k n).getD i 0) v)) (nI v) d f l nn s b o1 o2 := by
    intro j
    induction j with
    | zero =>
      intro v d f l nn s b o1 o2 hv
      have : v = n := by omega
      subst this
      unfold F_X12_orbits_5
      exact br1 (Int32.le_refl _) (K _ _ _ _ _ _ _ _)
    | succ j ih =>
      intro v d f l nn s b o1 o2 hv
      obtain ⟨hM, r, hr⟩ := orb_some (D := dkM n ((lvl k n).getD i 0)) (B := byM n ((lvl k n).getD i 0)) n6 (show v < n by omega)
      unfold F_X12_orbits_5 F_X12_orbits_39
      refine br2 (nI_ge (by omega) (by omega)) (f_takes hk hU h1 h2 hi (fun dark nodes by' hG => f_likesOf n6 h1 (by omega) hG (fun f l s o1 o2 => ?_)))
      have ih := fun d f l nn s b o1 o2 => ih (v + 1) d f l nn s b o1 o2 (by omega)
      have ep : nI (2 ^ v) - 1 = nI (2 ^ v - 1) := ni_sub (b := 1) (Nat.pow_pos (by decide))
      rw [ni_1shl (by omega), ep, ni_and, nI_1]
      rw [oP_succ] at ih
      by_cases e : lkF (ags n (dkM n ((lvl k n).getD i 0)) (byM n ((lvl k n).getD i 0))) (posF ((ags n (dkM n ((lvl k n).getD i 0)) (byM n ((lvl k n).getD i 0))).headD []) v) &&& (2 ^ v - 1) = 0
      · rw [if_pos (beq_iff_eq.mpr e)] at ih
        rw [e]
        refine br4 rfl ?_
        rw [nI_1]
        exact ih _ _ _ _ _ _ _ _
      · rw [if_neg (fun g => e (beq_iff_eq.mp g))] at ih
        refine br3 (fun g => e (ni_inj (b := 0) (Nat.lt_of_le_of_lt Nat.and_le_left (by omega)) (by decide) g)) ?_
        rw [Int32.add_zero]
        exact ih _ _ _ _ _ _ _ _
  exact main n 0 _ _ _ _ _ _ _ _ (by omega)
def rsum (f : Nat → Nat) : Nat → Nat
  | 0 => 0
  | j + 1 => rsum f j + f j
theorem f_rooted12 {k : KD} (hk : KOk k) {w forms many : Nat → Int32} (hU : LvUp k 7 forms many) {n : Nat} (h1 : 1 ≤ n) (h2 : n ≤ kSz k) {th : Int32} {post : Int32 → Int32 → Int32 → Int32 → Int32 → Int32 → Int32 → (Nat → Int32) → (Nat → Int32) → (Nat → Int32) → Prop} (K : ∀ d f l nn s b o1 o2, post (nI (rsum (fun i => uP n ((lvl k n).getD i 0) n) (lvl k n).length)) d f l nn s th b o1 o2) : ∀ j i d f l nn s b o1 o2, i + j = (lvl k n).length → F_X12_rooted_14 forms many w post (j + 1) (nI n) (nI (rsum (fun i => uP n ((lvl k n).getD i 0) n) i)) (nI i) d f l nn s th b o1 o2 := by
  have hsz := size_le hk
  have hl := lvl_len k n (by omega)
  intro j
  induction j with
  | zero =>
    intro i d f l nn s b o1 o2 hi
    have : i = (lvl k n).length := by omega
    subst this
    unfold F_X12_rooted_14
    refine ⟨vp_in_nI (by omega) (by decide), ?_⟩
    rw [many_at hU h1 (by omega)]
    exact br1 (Int32.le_refl _) (K _ _ _ _ _ _ _ _)
  | succ j ih =>
    intro i d f l nn s b o1 o2 hi
    unfold F_X12_rooted_14
    refine ⟨vp_in_nI (by omega) (by decide), ?_⟩
    rw [many_at hU h1 (by omega)]
    refine br2 (nI_ge (by omega) (by omega)) (f_orbits hk hU h1 h2 (by omega) (fun d f l nn s b o1 o2 => ?_))
    obtain ⟨hc, _, hd⟩ := lvl_get hk h1 h2 (show i < (lvl k n).length by omega)
    rw [← u_eq_o h1 hd hc, nI_add, nI_1]
    exact ih (i + 1) _ _ _ _ _ _ _ _ (by omega)
theorem f_rooted11 {k : KD} (hk : KOk k) {total sz : Int32} {codes firsts : Nat → Int32} (hL : LvX k total codes firsts) {n : Nat} (h1 : 1 ≤ n) (h2 : n ≤ kSz k) {post : Int32 → Int32 → Int64 → Int32 → Int32 → Int32 → Int32 → Int32 → Int64 → Int64 → Int32 → Int32 → Int64 → Int32 → Int32 → (Nat → Int64) → (Nat → Int32) → Prop} {postx : String → Int32 → Int64 → Int32 → Int32 → Int32 → Int32 → Int32 → Int64 → Int64 → Int32 → Int32 → Int64 → Int32 → Int32 → (Nat → Int64) → (Nat → Int32) → Prop} (K : ∀ ab fo ib is' it le nn od se sl sy cl dk' sn fans near, ordOk od → post (nI (rsum (fun i => uP n ((lvl k n).getD i 0) n) (lvl k n).length)) ab fo ib is' it le nn od se sl sy cl dk' sn fans near) : ∀ j i ab fo ib is' it le nn od se sl sy cl dk' sn fans near, ordOk od → i + j = (lvl k n).length → F_X11_rooted_9 total codes firsts sz post postx (j + 1) (nI n) (nI (rsum (fun i => uP n ((lvl k n).getD i 0) n) i)) (nI i) ab fo ib is' it le nn od se sl sy cl dk' sn fans near := by
  have hsz := size_le hk
  have hl := lvl_len k n (by omega)
  intro j
  induction j with
  | zero =>
    intro i ab fo ib is' it le nn od se sl sy cl dk' sn fans near ho hi
    have : i = (lvl k n).length := by omega
    subst this
    unfold F_X11_rooted_9
    exact f_amount hL.2.1 h1 (by omega) (by omega) (br1 (Int32.le_refl _) (K _ _ _ _ _ _ _ _ _ _ _ _ _ _ _ _ ho))
  | succ j ih =>
    intro i ab fo ib is' it le nn od se sl sy cl dk' sn fans near ho hi
    obtain ⟨hc, _, hd⟩ := lvl_get hk h1 h2 (show i < (lvl k n).length by omega)
    obtain ⟨c1, c2⟩ := lv_codes hL h1 (by omega) (show i < (lvl k n).length by omega)
    unfold F_X11_rooted_9
    refine f_amount hL.2.1 h1 (by omega) (by omega) (br2 (nI_ge (by omega) (by omega)) (f_codeOfI hL.2.1 h1 (by omega) (by omega) c1 c2 (f_unlikeNodes h1 hd hc ho (fun ab fo ib is' it le nn od se sl sy cl dk' sn fans near hod => ?_))))
    rw [nI_add, nI_1]
    exact ih (i + 1) _ _ _ _ _ _ _ _ _ _ _ _ _ _ _ _ hod (by omega)
theorem lc15 (xs : Nat → Int32) (L : Nat) (hL3 : L ≤ 3072) : LC15 xs L IInv := by
  unfold LC15
  intro x4 m_begin m_dark m_end m_faultAt m_form m_hasImage m_heldDark m_lasts m_nodes m_pairs m_point m_symmetries m_taped m_thrown m_toldEdges m_toldForm m_toldNodes m_toldSymmetries m_writtenMany m_by m_decks m_draft m_firstOrder m_five m_forms m_held m_image m_many m_order m_seen m_tape m_toldOrder m_world m_written o x_hasImage x_cycleSums_edges x_cycleSums_hasDark x_cycleSums_parts x_cycleSums_ways x_decks x_draft_bannedCircles x_draft_endLines x_draft_endsJoined x_draft_fewestEdges x_draft_hasDark x_draft_least x_draft_most x_draft_mostEdges x_draft_patterns x_draft_ruleLines x_draft_size x_draft_unlike x_draft_words x_draft_patternCodes x_draft_patternNodes x_forms_allBits x_forms_firstOrder x_forms_isBeaten x_forms_isStudy x_forms_isTest x_forms_least x_forms_nodes x_forms_order x_forms_seen x_forms_stillEdges x_forms_symmetries x_forms_sketch_colours x_forms_sketch_darks x_forms_sketch_nodes x_forms_sketch_fans x_forms_sketch_near x_keptLevels_total x_keptLevels_codes x_keptLevels_firsts x_keptRules_bannedCircles x_keptRules_endLines x_keptRules_endsJoined x_keptRules_fewestEdges x_keptRules_hasDark x_keptRules_least x_keptRules_most x_keptRules_mostEdges x_keptRules_patterns x_keptRules_ruleLines x_keptRules_size x_keptRules_unlike x_keptRules_words x_keptRules_patternCodes x_keptRules_patternNodes x_keptWalkers_allParts x_keptWalkers_depths x_keptWalkers_lists x_keptWalkers_ownParts x_levels_total x_levels_codes x_levels_firsts x_match_best x_match_code x_match_one_colours x_match_one_darks x_match_one_nodes x_match_one_fans x_match_one_near x_match_two_colours x_match_two_darks x_match_two_nodes x_match_two_fans x_match_two_near x_page_length x_page_bytes x_rules_bannedCircles x_rules_endLines x_rules_endsJoined x_rules_fewestEdges x_rules_hasDark x_rules_least x_rules_most x_rules_mostEdges x_rules_patterns x_rules_ruleLines x_rules_size x_rules_unlike x_rules_words x_rules_patternCodes x_rules_patternNodes x_sketch_colours x_sketch_darks x_sketch_nodes x_sketch_fans x_sketch_near x_tape_begun x_tape_length x_tape_position x_tape_wrong x_tape_bytes x_texts_code x_texts_nodes x_toldForms_allBits x_toldForms_firstOrder x_toldForms_isBeaten x_toldForms_isStudy x_toldForms_isTest x_toldForms_least x_toldForms_nodes x_toldForms_order x_toldForms_seen x_toldForms_stillEdges x_toldForms_symmetries x_toldForms_sketch_colours x_toldForms_sketch_darks x_toldForms_sketch_nodes x_toldForms_sketch_fans x_toldForms_sketch_near x_walkers_allParts x_walkers_depths x_walkers_lists x_walkers_ownParts hx0 hxL hI
  obtain ⟨k, hT, hK, hW, hG, hD, hO, hP⟩ := hI
  obtain ⟨hk, hw, ⟨q1, q2, q3, q4, q5, q6, q7, q8, q9, q10, q11, q12, hp⟩, hL, hU⟩ := hK
  subst q1 q2 q3 q4 q5 q6 q7 q8 q9 q10 q11 q12
  have hsz := size_le hk
  have a1 := arg_in hx0 hxL (by omega) (j := 1) (by omega)
  have a2 := arg_in hx0 hxL (by omega) (j := 2) (by omega)
  have a3 := arg_in hx0 hxL (by omega) (j := 3) (by omega)
  have a4 := arg_in hx0 hxL (by omega) (j := 4) (by omega)
  have a5 := arg_in hx0 hxL (by omega) (j := 5) (by omega)
  have o0 := vp_in_nI (n := 0) (N := 1) (by decide) (by decide)
  
  unfold F_law_c15 F_L_rooted F_law_c15_1310
  refine ⟨a1, ?_⟩
  generalize xs (x4 + 1).toNatClampNeg = p
  unfold F_X11_rooted F_X12_rooted F_X12_thrown
  rcases rng p (a := 1) (b := kSz k) (by decide) (by omega) with h | ⟨n, h1, h2, rfl⟩
  · exact x_needLevel_n h ⟨rfl, a1, f_noLevel_n hw h (br2 (by decide) (law_fin rfl (fun e => absurd e (by decide)) ⟨rfl, k, hT, ⟨hk, hw, ⟨rfl, rfl, rfl, rfl, rfl, rfl, rfl, rfl, rfl, rfl, rfl, rfl, hp⟩, hL, hU⟩, hW, hG, hD, hO, hP⟩))⟩
  · refine x_needLevel_y h1 h2 (by omega) ⟨(lvl k n).length + 1, f_rooted11 hk hL h1 h2 (fun ab fo ib is' it le nn od se sl sy cl dk' sn fans near hod => ?_) (lvl k n).length 0 _ _ _ _ _ _ _ _ _ _ _ _ _ _ _ _ hO.1 (by omega)⟩
    have hO : ordOk od ∧ ordOk x_toldForms_order := ⟨hod, hO.2⟩
    exact ⟨o0, a1, f_noLevel_y hk hw h1 h2 (br1 rfl ⟨(lvl k n).length + 1, f_rooted12 hk hU h1 h2 (fun d f l nn s b o1 o2 => law_fin rfl (fun _ => updL_in) ⟨rfl, k, hT, ⟨hk, hw, ⟨rfl, rfl, rfl, rfl, rfl, rfl, rfl, rfl, rfl, rfl, rfl, rfl, hp⟩, hL, hU⟩, hW, hG, hD, hO, hP⟩) (lvl k n).length 0 _ _ _ _ _ _ _ _ (by omega)⟩)⟩
