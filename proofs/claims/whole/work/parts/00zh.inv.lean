/-! what holds ahead of each call -/
def sgn (v : Nat) : Int32 := if v < 128 then nI v else nI v - 256
def TapeR (taped fault : Int32) (tape : Nat → Int32) (xl xw : Int32) (xb : Nat → Int32) : Prop := xl = taped ∧ xw = fault ∧ ∃ T, T ≤ 400 ∧ taped = nI T ∧ ∀ j, j < T → ∃ v, v < 256 ∧ xb j = nI v ∧ tape j = sgn v
def KindR (k : KD) (w forms many : Nat → Int32) (rbc rel rej rfe rhd rle rmo rme rpa rrl rsz rul : Int32) (rpc rpn : Nat → Int32) (total : Int32) (codes firsts : Nat → Int32) : Prop := KOk k ∧ WR k w ∧ XR k rbc rel rej rfe rhd rle rmo rme rpa rrl rsz rul rpc rpn ∧ LvX k total codes firsts ∧ LvUp k 7 forms many
/-- the nets of a share, by numbers -/
def fbk (k : KD) (d c : Nat) : Nat := (lvl k d).idxOf (c / 2 ^ (LN (kSz k) - LN d))
def shL (k : KD) (d p i : Nat) : List Nat := (List.range (lvl k (kSz k)).length).filter (fun x => fbk k d ((lvl k (kSz k)).getD x 0) % p == i)
def WkR (k : KD) (row : Nat → Int32) (dep al own lst : Nat → Int32) : Prop := ∀ w, w < 3 → ∃ d p i l : Nat, row (18 + 4 * w) = nI d ∧ row (18 + 4 * w + 1) = nI p ∧ row (18 + 4 * w + 2) = nI i ∧ row (18 + 4 * w + 3) = nI l ∧ dep w = nI d ∧ al w = nI p ∧ own w = nI i ∧ lst w = nI l ∧ ((d = 0 ∧ l = 0) ∨ (1 ≤ d ∧ d ≤ kSz k ∧ 1 ≤ p ∧ p ≤ 9 ∧ i < p ∧ l ≤ (shL k d p i).length))
def ImgR (mh : Int32) (row : Nat → Int32) (xh : Int32) (rbc rel rej rfe rhd rle rmo rme rpa rrl rsz rul : Int32) (rpc rpn : Nat → Int32) (total : Int32) (codes firsts : Nat → Int32) (dep al own lst : Nat → Int32) : Prop := xh = mh ∧ (mh = 0 ∨ (mh = 1 ∧ ∃ k, KOk k ∧ WR k row ∧ XR k rbc rel rej rfe rhd rle rmo rme rpa rrl rsz rul rpc rpn ∧ LvX k total codes firsts ∧ WkR k row dep al own lst))
def ToldR (mn mf ms me : Int32) (mo : Nat → Int32) (xn xl xs : Int32) (xf : Int64) : Prop := ∃ tn, tn ≤ 6 ∧ mn = nI tn ∧ xn = nI tn ∧ (tn ≠ 0 → ∃ (f : Nat) (l : List Nat), f < 2 ^ LN tn ∧ mf = nI f ∧ xl = nI f ∧ ms = xs ∧ me = nI (popc (f &&& aeM tn) 24) ∧ (∀ i, i < tn → mo i = nI (l.getD i 0)) ∧ ordIs xf l tn)
def PageR (mw : Int32) (mb : Nat → Int32) (xw : Int32) (xb : Nat → Int32) : Prop := ∃ W, W ≤ 96 ∧ mw = nI W ∧ xw = nI W ∧ ∀ j, j < W → mb j = xb j
def IInv : LI := fun m_begin m_dark m_end m_faultAt m_form m_hasImage m_heldDark m_lasts m_nodes m_pairs m_point m_symmetries m_taped m_thrown m_toldEdges m_toldForm m_toldNodes m_toldSymmetries m_writtenMany m_by m_decks m_draft m_firstOrder m_five m_forms m_held m_image m_many m_order m_seen m_tape m_toldOrder m_world m_written o x_hasImage x_cycleSums_edges x_cycleSums_hasDark x_cycleSums_parts x_cycleSums_ways x_decks x_draft_bannedCircles x_draft_endLines x_draft_endsJoined x_draft_fewestEdges x_draft_hasDark x_draft_least x_draft_most x_draft_mostEdges x_draft_patterns x_draft_ruleLines x_draft_size x_draft_unlike x_draft_words x_draft_patternCodes x_draft_patternNodes x_forms_allBits x_forms_firstOrder x_forms_isBeaten x_forms_isStudy x_forms_isTest x_forms_least x_forms_nodes x_forms_order x_forms_seen x_forms_stillEdges x_forms_symmetries x_forms_sketch_colours x_forms_sketch_darks x_forms_sketch_nodes x_forms_sketch_fans x_forms_sketch_near x_keptLevels_total x_keptLevels_codes x_keptLevels_firsts x_keptRules_bannedCircles x_keptRules_endLines x_keptRules_endsJoined x_keptRules_fewestEdges x_keptRules_hasDark x_keptRules_least x_keptRules_most x_keptRules_mostEdges x_keptRules_patterns x_keptRules_ruleLines x_keptRules_size x_keptRules_unlike x_keptRules_words x_keptRules_patternCodes x_keptRules_patternNodes x_keptWalkers_allParts x_keptWalkers_depths x_keptWalkers_lists x_keptWalkers_ownParts x_levels_total x_levels_codes x_levels_firsts x_match_best x_match_code x_match_one_colours x_match_one_darks x_match_one_nodes x_match_one_fans x_match_one_near x_match_two_colours x_match_two_darks x_match_two_nodes x_match_two_fans x_match_two_near x_page_length x_page_bytes x_rules_bannedCircles x_rules_endLines x_rules_endsJoined x_rules_fewestEdges x_rules_hasDark x_rules_least x_rules_most x_rules_mostEdges x_rules_patterns x_rules_ruleLines x_rules_size x_rules_unlike x_rules_words x_rules_patternCodes x_rules_patternNodes x_sketch_colours x_sketch_darks x_sketch_nodes x_sketch_fans x_sketch_near x_tape_begun x_tape_length x_tape_position x_tape_wrong x_tape_bytes x_texts_code x_texts_nodes x_toldForms_allBits x_toldForms_firstOrder x_toldForms_isBeaten x_toldForms_isStudy x_toldForms_isTest x_toldForms_least x_toldForms_nodes x_toldForms_order x_toldForms_seen x_toldForms_stillEdges x_toldForms_symmetries x_toldForms_sketch_colours x_toldForms_sketch_darks x_toldForms_sketch_nodes x_toldForms_sketch_fans x_toldForms_sketch_near x_walkers_allParts x_walkers_depths x_walkers_lists x_walkers_ownParts => ∃ k, TapeR m_taped m_faultAt m_tape x_tape_length x_tape_wrong x_tape_bytes ∧ KindR k m_world m_forms m_many x_rules_bannedCircles x_rules_endLines x_rules_endsJoined x_rules_fewestEdges x_rules_hasDark x_rules_least x_rules_most x_rules_mostEdges x_rules_patterns x_rules_ruleLines x_rules_size x_rules_unlike x_rules_patternCodes x_rules_patternNodes x_levels_total x_levels_codes x_levels_firsts ∧ WkR k m_world x_walkers_depths x_walkers_allParts x_walkers_ownParts x_walkers_lists ∧ ImgR m_hasImage m_image x_hasImage x_keptRules_bannedCircles x_keptRules_endLines x_keptRules_endsJoined x_keptRules_fewestEdges x_keptRules_hasDark x_keptRules_least x_keptRules_most x_keptRules_mostEdges x_keptRules_patterns x_keptRules_ruleLines x_keptRules_size x_keptRules_unlike x_keptRules_patternCodes x_keptRules_patternNodes x_keptLevels_total x_keptLevels_codes x_keptLevels_firsts x_keptWalkers_depths x_keptWalkers_allParts x_keptWalkers_ownParts x_keptWalkers_lists ∧ ToldR m_toldNodes m_toldForm m_toldSymmetries m_toldEdges m_toldOrder x_toldForms_nodes x_toldForms_least x_toldForms_symmetries x_toldForms_firstOrder ∧ (ordOk x_forms_order ∧ ordOk x_toldForms_order) ∧ PageR m_writtenMany m_written x_page_length x_page_bytes
def fresh (i : Nat) : Int32 := if i = 0 then 1 else if i = 2 ∨ i = 13 ∨ i = 15 then -1 else 0
theorem f_isFresh {p0 : Nat → Int32} {post : (Nat → Int32) → Prop} (K : ∀ w, (∀ i, i < 30 → w i = fresh i) → post w) : F_X12_isFresh 30 p0 post := by
  unfold F_X12_isFresh
  refine ⟨31, ?_⟩
  have main : ∀ j i (w : Nat → Int32), i + j = 30 → (∀ x, x < i → w x = 0) → F_X12_isFresh_2 30 post (j + 1) (nI i) w := by
    intro j
    induction j with
    | zero =>
      intro i w hi hw
      have : i = 30 := by omega
      subst this
      unfold F_X12_isFresh_2
      refine br1 (by decide) ⟨vp_in_nI (n := 0) (by decide) (by decide), vp_in_nI (n := 2) (by decide) (by decide), vp_in_nI (n := 13) (by decide) (by decide), vp_in_nI (n := 15) (by decide) (by decide), K _ (fun i hi => ?_)⟩
      show upd (upd (upd (upd w 0 1) 2 (-1)) 13 (-1)) 15 (-1) i = fresh i
      unfold fresh upd
      by_cases e0 : i = 0
      · simp [e0]
      · by_cases e1 : i = 15
        · simp [e1]
        · by_cases e2 : i = 13
          · simp [e2]
          · by_cases e3 : i = 2
            · simp [e3]
            · simp [e0, e1, e2, e3, hw i hi]
    | succ j ih =>
      intro i w hi hw
      unfold F_X12_isFresh_2
      refine br2 (nI_ge (a := i) (b := 30) (by omega) (by decide)) ⟨vp_in_nI (by omega) (by decide), ?_⟩
      rw [nI_clamp (by omega), nI_1]
      refine ih (i + 1) _ (by omega) (fun x hx => ?_)
      by_cases e : x = i
      · subst e; exact upd_in
      · rw [upd_out e]; exact hw x (by omega)
  exact main 30 0 p0 (by omega) (fun x hx => absurd hx (Nat.not_lt_zero _))
def kd0 : KD := (1, false, 5, 0, false, [], false, 0, 15, 0, 0, 0)
theorem kd0_ok : KOk kd0 := by
  refine ⟨by decide, by decide, by decide, by decide, by decide, fun x hx => ?_, by decide, by decide, by decide, by decide, by decide⟩
  exact absurd hx (by simp [kd0, kPs])
theorem fresh_WR {w : Nat → Int32} (h : ∀ i, i < 30 → w i = fresh i) : WR kd0 w := by
  refine ⟨h 0 (by decide), h 1 (by decide), Or.inl ⟨h 2 (by decide), rfl⟩, ⟨0, false, false, by decide, h 3 (by decide), h 4 (by decide), h 5 (by decide), rfl⟩, h 6 (by decide), h 7 (by decide), fun i hi => absurd hi (Nat.not_lt_zero _), h 12 (by decide), Or.inl ⟨h 13 (by decide), rfl, rfl⟩, Or.inl ⟨h 15 (by decide), rfl⟩, h 16 (by decide), h 17 (by decide)⟩
theorem fresh_WkR {k : KD} {w : Nat → Int32} (h : ∀ i, i < 30 → w i = fresh i) {dep al own lst : Nat → Int32} (h1 : ∀ i, i < 3 → dep i = 0 ∧ al i = 0 ∧ own i = 0 ∧ lst i = 0) : WkR k w dep al own lst := by
  intro v hv
  obtain ⟨a, b, c, d⟩ := h1 v hv
  have z : ∀ i, 18 ≤ i → i < 30 → w i = nI 0 := by
    intro i h2 h3
    rw [h i h3]
    unfold fresh
    rw [if_neg (by omega), if_neg (by omega)]; rfl
  exact ⟨0, 0, 0, 0, z _ (by omega) (by omega), z _ (by omega) (by omega), z _ (by omega) (by omega), z _ (by omega) (by omega), a, b, c, d, Or.inl ⟨rfl, rfl⟩⟩
theorem kd0_XR : XR kd0 0 0 0 0 0 0 5 15 0 0 1 0 (fun _ => 0) (fun _ => 0) := ⟨rfl, rfl, rfl, rfl, rfl, rfl, rfl, rfl, rfl, rfl, rfl, rfl, fun i hi => absurd hi (Nat.not_lt_zero _)⟩
theorem st_init : F_X11_init (fun x_hasImage x_cycleSums_edges x_cycleSums_hasDark x_cycleSums_parts x_cycleSums_ways x_decks x_draft_bannedCircles x_draft_endLines x_draft_endsJoined x_draft_fewestEdges x_draft_hasDark x_draft_least x_draft_most x_draft_mostEdges x_draft_patterns x_draft_ruleLines x_draft_size x_draft_unlike x_draft_words x_draft_patternCodes x_draft_patternNodes x_forms_allBits x_forms_firstOrder x_forms_isBeaten x_forms_isStudy x_forms_isTest x_forms_least x_forms_nodes x_forms_order x_forms_seen x_forms_stillEdges x_forms_symmetries x_forms_sketch_colours x_forms_sketch_darks x_forms_sketch_nodes x_forms_sketch_fans x_forms_sketch_near x_keptLevels_total x_keptLevels_codes x_keptLevels_firsts x_keptRules_bannedCircles x_keptRules_endLines x_keptRules_endsJoined x_keptRules_fewestEdges x_keptRules_hasDark x_keptRules_least x_keptRules_most x_keptRules_mostEdges x_keptRules_patterns x_keptRules_ruleLines x_keptRules_size x_keptRules_unlike x_keptRules_words x_keptRules_patternCodes x_keptRules_patternNodes x_keptWalkers_allParts x_keptWalkers_depths x_keptWalkers_lists x_keptWalkers_ownParts x_levels_total x_levels_codes x_levels_firsts x_match_best x_match_code x_match_one_colours x_match_one_darks x_match_one_nodes x_match_one_fans x_match_one_near x_match_two_colours x_match_two_darks x_match_two_nodes x_match_two_fans x_match_two_near x_page_length x_page_bytes x_rules_bannedCircles x_rules_endLines x_rules_endsJoined x_rules_fewestEdges x_rules_hasDark x_rules_least x_rules_most x_rules_mostEdges x_rules_patterns x_rules_ruleLines x_rules_size x_rules_unlike x_rules_words x_rules_patternCodes x_rules_patternNodes x_sketch_colours x_sketch_darks x_sketch_nodes x_sketch_fans x_sketch_near x_tape_begun x_tape_length x_tape_position x_tape_wrong x_tape_bytes x_texts_code x_texts_nodes x_toldForms_allBits x_toldForms_firstOrder x_toldForms_isBeaten x_toldForms_isStudy x_toldForms_isTest x_toldForms_least x_toldForms_nodes x_toldForms_order x_toldForms_seen x_toldForms_stillEdges x_toldForms_symmetries x_toldForms_sketch_colours x_toldForms_sketch_darks x_toldForms_sketch_nodes x_toldForms_sketch_fans x_toldForms_sketch_near x_walkers_allParts x_walkers_depths x_walkers_lists x_walkers_ownParts => F_X12_init (fun m_begin m_dark m_end m_faultAt m_form m_hasImage m_heldDark m_lasts m_nodes m_pairs m_point m_symmetries m_taped m_thrown m_toldEdges m_toldForm m_toldNodes m_toldSymmetries m_writtenMany m_by m_decks m_draft m_firstOrder m_five m_forms m_held m_image m_many m_order m_seen m_tape m_toldOrder m_world m_written => IInv m_begin m_dark m_end m_faultAt m_form m_hasImage m_heldDark m_lasts m_nodes m_pairs m_point m_symmetries m_taped m_thrown m_toldEdges m_toldForm m_toldNodes m_toldSymmetries m_writtenMany m_by m_decks m_draft m_firstOrder m_five m_forms m_held m_image m_many m_order m_seen m_tape m_toldOrder m_world m_written (fun _ => 0) x_hasImage x_cycleSums_edges x_cycleSums_hasDark x_cycleSums_parts x_cycleSums_ways x_decks x_draft_bannedCircles x_draft_endLines x_draft_endsJoined x_draft_fewestEdges x_draft_hasDark x_draft_least x_draft_most x_draft_mostEdges x_draft_patterns x_draft_ruleLines x_draft_size x_draft_unlike x_draft_words x_draft_patternCodes x_draft_patternNodes x_forms_allBits x_forms_firstOrder x_forms_isBeaten x_forms_isStudy x_forms_isTest x_forms_least x_forms_nodes x_forms_order x_forms_seen x_forms_stillEdges x_forms_symmetries x_forms_sketch_colours x_forms_sketch_darks x_forms_sketch_nodes x_forms_sketch_fans x_forms_sketch_near x_keptLevels_total x_keptLevels_codes x_keptLevels_firsts x_keptRules_bannedCircles x_keptRules_endLines x_keptRules_endsJoined x_keptRules_fewestEdges x_keptRules_hasDark x_keptRules_least x_keptRules_most x_keptRules_mostEdges x_keptRules_patterns x_keptRules_ruleLines x_keptRules_size x_keptRules_unlike x_keptRules_words x_keptRules_patternCodes x_keptRules_patternNodes x_keptWalkers_allParts x_keptWalkers_depths x_keptWalkers_lists x_keptWalkers_ownParts x_levels_total x_levels_codes x_levels_firsts x_match_best x_match_code x_match_one_colours x_match_one_darks x_match_one_nodes x_match_one_fans x_match_one_near x_match_two_colours x_match_two_darks x_match_two_nodes x_match_two_fans x_match_two_near x_page_length x_page_bytes x_rules_bannedCircles x_rules_endLines x_rules_endsJoined x_rules_fewestEdges x_rules_hasDark x_rules_least x_rules_most x_rules_mostEdges x_rules_patterns x_rules_ruleLines x_rules_size x_rules_unlike x_rules_words x_rules_patternCodes x_rules_patternNodes x_sketch_colours x_sketch_darks x_sketch_nodes x_sketch_fans x_sketch_near x_tape_begun x_tape_length x_tape_position x_tape_wrong x_tape_bytes x_texts_code x_texts_nodes x_toldForms_allBits x_toldForms_firstOrder x_toldForms_isBeaten x_toldForms_isStudy x_toldForms_isTest x_toldForms_least x_toldForms_nodes x_toldForms_order x_toldForms_seen x_toldForms_stillEdges x_toldForms_symmetries x_toldForms_sketch_colours x_toldForms_sketch_darks x_toldForms_sketch_nodes x_toldForms_sketch_fans x_toldForms_sketch_near x_walkers_allParts x_walkers_depths x_walkers_lists x_walkers_ownParts)) := by
  unfold F_X11_init F_X8_init F_X6_init F_X6_clear F_X3_init F_X10_init F_X9_init F_X5_init F_X2_init F_X7_init F_X4_init F_X1_init
  refine ⟨by decide, by decide, by decide, by decide, by decide, by decide, by decide, by decide, by decide, ?_⟩
  refine f_fill (k := kd0) (total := 0) kd0_ok ⟨rfl, rfl, rfl, rfl, rfl, rfl, fun i hi => absurd hi (Nat.not_lt_zero _)⟩ ⟨0, by decide, rfl⟩ rfl (fun kc kd kn kf kr ab fo ib is' it le nn od se sl sy cl dk' sn fans near total codes firsts ho hL => ?_)
  unfold F_X12_init
  refine f_isFresh (fun w hw => f_laysLevels kd0_ok (fresh_WR hw) (fun dark nodes by' forms many o seen hU => ?_))
  refine ⟨kd0, ⟨rfl, rfl, 0, by decide, rfl, fun j hj => absurd hj (Nat.not_lt_zero _)⟩, ⟨kd0_ok, fresh_WR hw, kd0_XR, hL, hU⟩, fresh_WkR hw (fun i _ => ⟨rfl, rfl, rfl, rfl⟩), ⟨rfl, Or.inl rfl⟩, ⟨0, by decide, rfl, rfl, fun h => absurd rfl h⟩, ⟨ho, ⟨0, by decide, rfl⟩⟩, ⟨0, by decide, rfl, rfl, fun j hj => absurd hj (Nat.not_lt_zero _)⟩⟩
/-! the law's own words -/
theorem arg_in {x4 : Int32} {L : Nat} (h0 : 0 ≤ x4.toInt) (hL : x4.toInt + 6 ≤ L) (hL2 : L < 2 ^ 31) {j : Nat} (hj : j < 6) : vp_in (x4 + nI j) L := by
  rw [vp_in_iff]
  have e : (x4 + nI j).toInt = x4.toInt + j := by
    rw [Int32.toInt_add, nI_toInt (by omega)]
    apply Int.bmod_eq_of_le <;> omega
  rw [e]; omega
theorem law_fin {r th : Int32} {o : Nat → Int64} {v : Int64} {K : Prop} (h : th = r) (hv : r = 0 → o 0 = v) (k : K) : ((th = r → ((¬ r = 0 → K) ∧ (r = 0 → (vp_in 0 1 ∧ ((lg_cmp (o (0 : Int32).toNatClampNeg) v = 0 → K) ∧ (¬ lg_cmp (o (0 : Int32).toNatClampNeg) v = 0 → False)))))) ∧ (¬ th = r → False)) := by
  refine ⟨fun _ => ⟨fun _ => k, fun e => ⟨vp_in_nI (n := 0) (by decide) (by decide), fun _ => k, fun g => g ?_⟩⟩, fun g => g h⟩
  rw [lg_cmp_eq]
  exact hv e
