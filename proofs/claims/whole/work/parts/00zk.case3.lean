/-! the image; what is counted; what was told -/
theorem WR_congr {k : KD} (hk : KOk k) {w w2 : Nat → Int32} (h : ∀ i, i < 30 → w2 i = w i) (hw : WR k w) : WR k w2 := by
  obtain ⟨a0, a1, a2, ⟨fr, ev, fo, b1, b2, b3, b4, b5⟩, a6, a7, a8, a12, a13, a15, a16, a17⟩ := hw
  have hl := hk.2.2.2.2.1
  refine ⟨(h 0 (by decide)).trans a0, (h 1 (by decide)).trans a1, ?_, ⟨fr, ev, fo, b1, (h 3 (by decide)).trans b2, (h 4 (by decide)).trans b3, (h 5 (by decide)).trans b4, b5⟩, (h 6 (by decide)).trans a6, (h 7 (by decide)).trans a7, fun i hi => ?_, (h 12 (by decide)).trans a12, ?_, ?_, (h 16 (by decide)).trans a16, (h 17 (by decide)).trans a17⟩
  · rw [h 2 (by decide)]; exact a2
  · rw [h _ (by omega), h _ (by omega)]; exact a8 i hi
  · rw [h 13 (by decide), h 14 (by decide)]; exact a13
  · rw [h 15 (by decide)]; exact a15
theorem WkR_congr {k : KD} {w w2 dep al own lst dep2 al2 own2 lst2 : Nat → Int32} (h : ∀ i, i < 30 → w2 i = w i) (g : ∀ i, i < 3 → dep2 i = dep i ∧ al2 i = al i ∧ own2 i = own i ∧ lst2 i = lst i) (hW : WkR k w dep al own lst) : WkR k w2 dep2 al2 own2 lst2 := by
  intro v hv
  obtain ⟨d, p, i, l, e1, e2, e3, e4, e5, e6, e7, e8, e9⟩ := hW v hv
  obtain ⟨g1, g2, g3, g4⟩ := g v hv
  exact ⟨d, p, i, l, (h _ (by omega)).trans e1, (h _ (by omega)).trans e2, (h _ (by omega)).trans e3, (h _ (by omega)).trans e4, g1.trans e5, g2.trans e6, g3.trans e7, g4.trans e8, e9⟩
theorem XR_congr {k : KD} (hk : KOk k) {rbc rel rej rfe rhd rle rmo rme rpa rrl rsz rul : Int32} {rpc rpn rpc2 rpn2 : Nat → Int32} (g : ∀ i, i < 2 → rpc2 i = rpc i ∧ rpn2 i = rpn i) (h : XR k rbc rel rej rfe rhd rle rmo rme rpa rrl rsz rul rpc rpn) : XR k rbc rel rej rfe rhd rle rmo rme rpa rrl rsz rul rpc2 rpn2 := by
  obtain ⟨q1, q2, q3, q4, q5, q6, q7, q8, q9, q10, q11, q12, hp⟩ := h
  refine ⟨q1, q2, q3, q4, q5, q6, q7, q8, q9, q10, q11, q12, fun i hi => ?_⟩
  have := hk.2.2.2.2.1
  obtain ⟨g1, g2⟩ := g i (by omega)
  rw [g1, g2]; exact hp i hi
theorem LvX_congr {k : KD} {total : Int32} {codes firsts codes2 firsts2 : Nat → Int32} (g1 : ∀ i, i < 662 → codes2 i = codes i) (g2 : ∀ i, i < 8 → firsts2 i = firsts i) (h : LvX k total codes firsts) : LvX k total codes2 firsts2 := by
  refine ⟨h.1, fun n a b => (g2 n (by omega)).trans (h.2.1 n a b), fun n a b i hi => ?_, fun i hi => absurd hi (Nat.not_lt_zero _)⟩
  obtain ⟨c1, c2⟩ := lv_codes h a (by omega) hi
  rw [g1 _ c2, c1]
theorem cpy_at {α : Type} {f g : Nat → α} {n k : Nat} (h : k < n) : va_cpy f g 0 0 n k = f k := by
  unfold va_cpy
  rw [if_pos (by omega)]
  congr 1; omega
theorem f_copies {p0 p1 : Nat → Int32} {post : (Nat → Int32) → Prop} (K : ∀ p, (∀ i, i < 30 → p i = p0 i) → post p) : F_X12_copies 30 30 p0 p1 post := by
  unfold F_X12_copies
  refine ⟨31, ?_⟩
  have main : ∀ j i (p : Nat → Int32), i + j = 30 → (∀ x, x < i → p x = p0 x) → F_X12_copies_2 30 30 p0 post (j + 1) (nI i) p := by
    intro j
    induction j with
    | zero =>
      intro i p hi hp
      have : i = 30 := by omega
      subst this
      unfold F_X12_copies_2
      exact br1 (by decide) (K p hp)
    | succ j ih =>
      intro i p hi hp
      unfold F_X12_copies_2
      have gi := vp_in_nI (n := i) (N := 30) (by omega) (by decide)
      refine br2 (nI_ge (b := 30) (by omega) (by decide)) ⟨gi, gi, ?_⟩
      rw [nI_clamp (by omega), nI_1]
      refine ih (i + 1) _ (by omega) (fun x hx => ?_)
      by_cases e : x = i
      · subst e; exact upd_in
      · rw [upd_out e]; exact hp x (by omega)
  exact main 30 0 p1 (by omega) (fun x hx => absurd hx (Nat.not_lt_zero _))
theorem f_copyR {k : KD} {pw rbc rel rej rfe rhd rle rmo rme rpa rrl rsz rul : Int32} {rpc rpn : Nat → Int32} (h : XR k rbc rel rej rfe rhd rle rmo rme rpa rrl rsz rul rpc rpn) {t1 t2 t3 t4 t5 t6 t7 t8 t9 t10 t11 t12 t13 : Int32} {tc tn : Nat → Int32} {post : Int32 → Int32 → Int32 → Int32 → Int32 → Int32 → Int32 → Int32 → Int32 → Int32 → Int32 → Int32 → Int32 → (Nat → Int32) → (Nat → Int32) → Prop} (K : ∀ c n, (∀ i, i < 2 → c i = rpc i ∧ n i = rpn i) → post rbc rel rej rfe rhd rle rmo rme rpa rrl rsz rul pw c n) : F_X6_copyFrom rbc rel rej rfe rhd rle rmo rme rpa rrl rsz rul pw rpc rpn t1 t2 t3 t4 t5 t6 t7 t8 t9 t10 t11 t12 t13 tc tn post := by
  obtain ⟨q1, q2, q3, q4, q5, q6, q7, q8, q9, q10, q11, q12, hp⟩ := h
  unfold F_X6_copyFrom
  refine ⟨by rw [q5]; exact bb1 _, by rw [q12]; exact bb1 _, by decide, by decide, by rw [q3]; exact bb1 _, K _ _ (fun i hi => ⟨cpy_at hi, cpy_at hi⟩)⟩
theorem f_copyL {p : Int32} {pc pf : Nat → Int32} {t : Int32} {tc tf : Nat → Int32} {post : Int32 → (Nat → Int32) → (Nat → Int32) → Prop} (K : ∀ c f, (∀ i, i < 662 → c i = pc i) → (∀ i, i < 8 → f i = pf i) → post p c f) : F_X3_copyFrom p pc pf t tc tf post := by
  unfold F_X3_copyFrom
  exact ⟨by decide, by decide, K _ _ (fun i hi => cpy_at hi) (fun i hi => cpy_at hi)⟩
theorem f_copyW {a d l o ta td tl to : Nat → Int32} {post : (Nat → Int32) → (Nat → Int32) → (Nat → Int32) → (Nat → Int32) → Prop} (K : ∀ a' d' l' o', (∀ i, i < 3 → d' i = d i ∧ a' i = a i ∧ o' i = o i ∧ l' i = l i) → post a' d' l' o') : F_X10_copyFrom a d l o ta td tl to post := by
  unfold F_X10_copyFrom
  exact ⟨by decide, by decide, by decide, by decide, K _ _ _ _ (fun i hi => ⟨cpy_at hi, cpy_at hi, cpy_at hi, cpy_at hi⟩)⟩
theorem lc33 (xs : Nat → Int32) (L : Nat) (hL3 : L ≤ 3072) : LC33 xs L IInv := by
  unfold LC33
  intro x4 m_begin m_dark m_end m_faultAt m_form m_hasImage m_heldDark m_lasts m_nodes m_pairs m_point m_symmetries m_taped m_thrown m_toldEdges m_toldForm m_toldNodes m_toldSymmetries m_writtenMany m_by m_decks m_draft m_firstOrder m_five m_forms m_held m_image m_many m_order m_seen m_tape m_toldOrder m_world m_written o x_hasImage x_cycleSums_edges x_cycleSums_hasDark x_cycleSums_parts x_cycleSums_ways x_decks x_draft_bannedCircles x_draft_endLines x_draft_endsJoined x_draft_fewestEdges x_draft_hasDark x_draft_least x_draft_most x_draft_mostEdges x_draft_patterns x_draft_ruleLines x_draft_size x_draft_unlike x_draft_words x_draft_patternCodes x_draft_patternNodes x_forms_allBits x_forms_firstOrder x_forms_isBeaten x_forms_isStudy x_forms_isTest x_forms_least x_forms_nodes x_forms_order x_forms_seen x_forms_stillEdges x_forms_symmetries x_forms_sketch_colours x_forms_sketch_darks x_forms_sketch_nodes x_forms_sketch_fans x_forms_sketch_near x_keptLevels_total x_keptLevels_codes x_keptLevels_firsts x_keptRules_bannedCircles x_keptRules_endLines x_keptRules_endsJoined x_keptRules_fewestEdges x_keptRules_hasDark x_keptRules_least x_keptRules_most x_keptRules_mostEdges x_keptRules_patterns x_keptRules_ruleLines x_keptRules_size x_keptRules_unlike x_keptRules_words x_keptRules_patternCodes x_keptRules_patternNodes x_keptWalkers_allParts x_keptWalkers_depths x_keptWalkers_lists x_keptWalkers_ownParts x_levels_total x_levels_codes x_levels_firsts x_match_best x_match_code x_match_one_colours x_match_one_darks x_match_one_nodes x_match_one_fans x_match_one_near x_match_two_colours x_match_two_darks x_match_two_nodes x_match_two_fans x_match_two_near x_page_length x_page_bytes x_rules_bannedCircles x_rules_endLines x_rules_endsJoined x_rules_fewestEdges x_rules_hasDark x_rules_least x_rules_most x_rules_mostEdges x_rules_patterns x_rules_ruleLines x_rules_size x_rules_unlike x_rules_words x_rules_patternCodes x_rules_patternNodes x_sketch_colours x_sketch_darks x_sketch_nodes x_sketch_fans x_sketch_near x_tape_begun x_tape_length x_tape_position x_tape_wrong x_tape_bytes x_texts_code x_texts_nodes x_toldForms_allBits x_toldForms_firstOrder x_toldForms_isBeaten x_toldForms_isStudy x_toldForms_isTest x_toldForms_least x_toldForms_nodes x_toldForms_order x_toldForms_seen x_toldForms_stillEdges x_toldForms_symmetries x_toldForms_sketch_colours x_toldForms_sketch_darks x_toldForms_sketch_nodes x_toldForms_sketch_fans x_toldForms_sketch_near x_walkers_allParts x_walkers_depths x_walkers_lists x_walkers_ownParts hx0 hxL hI
  obtain ⟨k, hT, hK, hW, hG, hD, hO, hP⟩ := hI
  obtain ⟨hk, hw, ⟨q1, q2, q3, q4, q5, q6, q7, q8, q9, q10, q11, q12, hp⟩, hL, hU⟩ := hK
  subst q1 q2 q3 q4 q5 q6 q7 q8 q9 q10 q11 q12
  have hsz := size_le hk
  have a1 := arg_in hx0 hxL (by omega) (j := 1) (by omega)
  have a2 := arg_in hx0 hxL (by omega) (j := 2) (by omega)
  have a3 := arg_in hx0 hxL (by omega) (j := 3) (by omega)
  have a4 := arg_in hx0 hxL (by omega) (j := 4) (by omega)
  have a5 := arg_in hx0 hxL (by omega) (j := 5) (by omega)
  have o0 := vp_in_nI (n := 0) (N := 1) (by decide) (by decide)
  
  unfold F_law_c33 F_X11_image
  have hX : XR k (nI (kBc k)) (nI (kEl k)) (nI (kEj k).toNat) (nI (kLo k)) (nI (kDk k).toNat) (nI (kLe k)) (nI (kMo k)) (nI (kHi k)) (nI (kPs k).length) (nI (kRl k)) (nI (kSz k)) (nI (kUl k).toNat) x_rules_patternCodes x_rules_patternNodes := ⟨rfl, rfl, rfl, rfl, rfl, rfl, rfl, rfl, rfl, rfl, rfl, rfl, hp⟩
  refine f_copyR hX (fun c n hc => f_copyL (fun cc ff h1 h2 => f_copyW (fun a d l o' h3 => ?_)))
  unfold F_X12_image
  refine f_copies (fun im h4 => ?_)
  exact ⟨rfl, k, hT, ⟨hk, hw, ⟨rfl, rfl, rfl, rfl, rfl, rfl, rfl, rfl, rfl, rfl, rfl, rfl, hp⟩, hL, hU⟩, hW, ⟨rfl, Or.inr ⟨rfl, k, hk, WR_congr hk h4 hw, XR_congr hk hc hX, LvX_congr h1 h2 hL, WkR_congr h4 h3 hW⟩⟩, hD, hO, hP⟩
theorem lc34 (xs : Nat → Int32) (L : Nat) (hL3 : L ≤ 3072) : LC34 xs L IInv := by
  unfold LC34
  intro x4 m_begin m_dark m_end m_faultAt m_form m_hasImage m_heldDark m_lasts m_nodes m_pairs m_point m_symmetries m_taped m_thrown m_toldEdges m_toldForm m_toldNodes m_toldSymmetries m_writtenMany m_by m_decks m_draft m_firstOrder m_five m_forms m_held m_image m_many m_order m_seen m_tape m_toldOrder m_world m_written o x_hasImage x_cycleSums_edges x_cycleSums_hasDark x_cycleSums_parts x_cycleSums_ways x_decks x_draft_bannedCircles x_draft_endLines x_draft_endsJoined x_draft_fewestEdges x_draft_hasDark x_draft_least x_draft_most x_draft_mostEdges x_draft_patterns x_draft_ruleLines x_draft_size x_draft_unlike x_draft_words x_draft_patternCodes x_draft_patternNodes x_forms_allBits x_forms_firstOrder x_forms_isBeaten x_forms_isStudy x_forms_isTest x_forms_least x_forms_nodes x_forms_order x_forms_seen x_forms_stillEdges x_forms_symmetries x_forms_sketch_colours x_forms_sketch_darks x_forms_sketch_nodes x_forms_sketch_fans x_forms_sketch_near x_keptLevels_total x_keptLevels_codes x_keptLevels_firsts x_keptRules_bannedCircles x_keptRules_endLines x_keptRules_endsJoined x_keptRules_fewestEdges x_keptRules_hasDark x_keptRules_least x_keptRules_most x_keptRules_mostEdges x_keptRules_patterns x_keptRules_ruleLines x_keptRules_size x_keptRules_unlike x_keptRules_words x_keptRules_patternCodes x_keptRules_patternNodes x_keptWalkers_allParts x_keptWalkers_depths x_keptWalkers_lists x_keptWalkers_ownParts x_levels_total x_levels_codes x_levels_firsts x_match_best x_match_code x_match_one_colours x_match_one_darks x_match_one_nodes x_match_one_fans x_match_one_near x_match_two_colours x_match_two_darks x_match_two_nodes x_match_two_fans x_match_two_near x_page_length x_page_bytes x_rules_bannedCircles x_rules_endLines x_rules_endsJoined x_rules_fewestEdges x_rules_hasDark x_rules_least x_rules_most x_rules_mostEdges x_rules_patterns x_rules_ruleLines x_rules_size x_rules_unlike x_rules_words x_rules_patternCodes x_rules_patternNodes x_sketch_colours x_sketch_darks x_sketch_nodes x_sketch_fans x_sketch_near x_tape_begun x_tape_length x_tape_position x_tape_wrong x_tape_bytes x_texts_code x_texts_nodes x_toldForms_allBits x_toldForms_firstOrder x_toldForms_isBeaten x_toldForms_isStudy x_toldForms_isTest x_toldForms_least x_toldForms_nodes x_toldForms_order x_toldForms_seen x_toldForms_stillEdges x_toldForms_symmetries x_toldForms_sketch_colours x_toldForms_sketch_darks x_toldForms_sketch_nodes x_toldForms_sketch_fans x_toldForms_sketch_near x_walkers_allParts x_walkers_depths x_walkers_lists x_walkers_ownParts hx0 hxL hI
  obtain ⟨k, hT, hK, hW, hG, hD, hO, hP⟩ := hI
  obtain ⟨hk, hw, ⟨q1, q2, q3, q4, q5, q6, q7, q8, q9, q10, q11, q12, hp⟩, hL, hU⟩ := hK
  subst q1 q2 q3 q4 q5 q6 q7 q8 q9 q10 q11 q12
  have hsz := size_le hk
  have a1 := arg_in hx0 hxL (by omega) (j := 1) (by omega)
  have a2 := arg_in hx0 hxL (by omega) (j := 2) (by omega)
  have a3 := arg_in hx0 hxL (by omega) (j := 3) (by omega)
  have a4 := arg_in hx0 hxL (by omega) (j := 4) (by omega)
  have a5 := arg_in hx0 hxL (by omega) (j := 5) (by omega)
  have o0 := vp_in_nI (n := 0) (N := 1) (by decide) (by decide)
  
  unfold F_law_c34 F_X11_back F_X12_back
  obtain ⟨g1, g2⟩ := hG
  subst g1
  have hG : ImgR x_hasImage m_image x_hasImage x_keptRules_bannedCircles x_keptRules_endLines x_keptRules_endsJoined x_keptRules_fewestEdges x_keptRules_hasDark x_keptRules_least x_keptRules_most x_keptRules_mostEdges x_keptRules_patterns x_keptRules_ruleLines x_keptRules_size x_keptRules_unlike x_keptRules_patternCodes x_keptRules_patternNodes x_keptLevels_total x_keptLevels_codes x_keptLevels_firsts x_keptWalkers_depths x_keptWalkers_allParts x_keptWalkers_ownParts x_keptWalkers_lists := ⟨rfl, g2⟩
  rcases g2 with g2 | ⟨g2, k2, i1, i2, i3, i4, i5⟩
  · subst g2
    exact br4 rfl ⟨by decide, br4 rfl ⟨by decide, fun _ => ⟨rfl, k, hT, ⟨hk, hw, ⟨rfl, rfl, rfl, rfl, rfl, rfl, rfl, rfl, rfl, rfl, rfl, rfl, hp⟩, hL, hU⟩, hW, hG, hD, hO, hP⟩, fun e => absurd rfl e⟩⟩
  · subst g2
    refine br3 (by decide) (f_copyR i3 (fun c n hc => f_copyL (fun cc ff h1 h2 => f_copyW (fun a d l o' h3 => br3 (by decide) (f_copies (fun w h4 => f_laysLevels i1 (WR_congr i1 h4 i2) (fun dark nodes by' forms many o2 seen hU2 => ⟨fun _ => ?_, fun e => absurd rfl e⟩)))))))
    exact ⟨rfl, k2, hT, ⟨i1, WR_congr i1 h4 i2, XR_congr i1 hc i3, LvX_congr h1 h2 i4, hU2⟩, WkR_congr h4 h3 i5, hG, hD, hO, hP⟩
theorem f_hasNone {k : KD} {w dep al own lst : Nat → Int32} (hW : WkR k w dep al own lst) {v : Nat} (hv : v < 3) {post : Int32 → Prop} (K : post (if w (18 + 4 * v) = 0 then 1 else 0)) : F_X12_hasNone w (nI v) post := by
  unfold F_X12_hasNone F_X12_ofWalker F_X12_walkerAt F_X12_hasNone_14
  have e : (18 : Int32) + 4 * nI v + 0 = nI (18 + 4 * v) := by
    rw [show (4 : Int32) * nI v = nI (4 * v) from ni_mul 4 v, Int32.add_zero]
    exact nI_add 18 _
  rw [e]
  refine ⟨vp_in_nI (by omega) (by decide), ?_⟩
  rw [nI_clamp (by omega)]
  refine ⟨fun g => ⟨by decide, ?_⟩, fun g => ⟨by decide, ?_⟩⟩
  · rw [if_neg g] at K; exact K
  · rw [if_pos g] at K; exact K
theorem f_look {p0 : Nat → Int32} {v : Nat} (hv : v < 3) {post : Int32 → Prop} (K : post (p0 v)) : F_X10_look 3 p0 (nI v) post := by
  unfold F_X10_look F_X10_look_21
  refine br2 (nI_pos (by omega)) (br2 (nI_ge (a := v) (b := 3) hv (by decide)) ⟨vp_in_nI hv (by decide), ?_⟩)
  rw [nI_clamp (by omega)]; exact K
theorem f_hasShare {k : KD} {w dep al own lst : Nat → Int32} (hk : KOk k) (hW : WkR k w dep al own lst) {v : Nat} (hv : v < 3) {post : Int32 → Prop} (K : post (if w (18 + 4 * v) = 0 then 0 else 1)) : F_X10_hasShare dep (nI v) post := by
  have hs := size_le hk
  unfold F_X10_hasShare F_X10_hasShare_13 F_X10_depth
  obtain ⟨d, p, i, l, e1, e2, e3, e4, e5, e6, e7, e8, e9⟩ := hW v hv
  refine f_look hv ?_
  rw [e5]
  rw [e1] at K
  refine ⟨fun g => ⟨by decide, ?_⟩, fun g => ⟨by decide, ?_⟩⟩
  · have : d = 0 := by
      have := (nI_leI (b := 0) (by omega) (by decide)).mp g
      omega
    subst this
    exact K
  · have : ¬ nI d = 0 := fun e => g (by rw [e]; exact Int32.le_refl _)
    rw [if_neg this] at K
    exact K
def wsF (w : Nat → Int32) : Nat → Nat
  | 0 => 0
  | v + 1 => wsF w v ||| (if w (18 + 4 * v) = 0 then 0 else 2 ^ v)
theorem f_withShare {k : KD} {w dep al own lst : Nat → Int32} (hk : KOk k) (hW : WkR k w dep al own lst) {post : Int32 → Prop} (K : post (nI (wsF w 3))) : F_X10_withShare dep post := by
  unfold F_X10_withShare
  refine ⟨4, ?_⟩
  have main : ∀ j v, v + j = 3 → F_X10_withShare_4 dep post (j + 1) (nI (wsF w v)) (nI v) := by
    intro j
    induction j with
    | zero =>
      intro v hv
      have : v = 3 := by omega
      subst this
      unfold F_X10_withShare_4
      exact br1 (by decide) K
    | succ j ih =>
      intro v hv
      have ih := ih (v + 1) (by omega)
      rw [wsF] at ih
      unfold F_X10_withShare_4 F_X10_withShare_25
      refine br2 (nI_ge (b := 3) (by omega) (by decide)) (f_hasShare hk hW (by omega) ?_)
      by_cases g : w (18 + 4 * v) = 0
      · rw [if_pos g] at ih ⊢
        refine br1 rfl ?_
        rw [nI_1]
        show F_X10_withShare_4 dep post (j + 1) (nI (wsF w v) ||| nI 0) (nI (v + 1))
        rw [ni_or]; exact ih
      · rw [if_neg g] at ih ⊢
        refine br2 (by decide) ?_
        rw [nI_1, ni_1shl (by omega), ni_or]; exact ih
  exact main 3 0 (by omega)
theorem f_walkers {k : KD} {w dep al own lst : Nat → Int32} (hW : WkR k w dep al own lst) {post : Int32 → Prop} (K : post (nI (wsF w 3))) : F_X12_walkers w post := by
  unfold F_X12_walkers
  refine ⟨4, ?_⟩
  have main : ∀ j v, v + j = 3 → F_X12_walkers_4 w post (j + 1) (nI (wsF w v)) (nI v) := by
    intro j
    induction j with
    | zero =>
      intro v hv
      have : v = 3 := by omega
      subst this
      unfold F_X12_walkers_4
      exact br1 (by decide) K
    | succ j ih =>
      intro v hv
      have ih := ih (v + 1) (by omega)
      rw [wsF] at ih
      unfold F_X12_walkers_4 F_X12_walkers_25
      refine br2 (nI_ge (b := 3) (by omega) (by decide)) (f_hasNone hW (by omega) ?_)
      by_cases g : w (18 + 4 * v) = 0
      · rw [if_pos g] at ih ⊢
        refine br2 (by decide) ?_
        rw [nI_1]
        show F_X12_walkers_4 w post (j + 1) (nI (wsF w v) ||| nI 0) (nI (v + 1))
        rw [ni_or]; exact ih
      · rw [if_neg g] at ih ⊢
        refine br1 rfl ?_
        rw [nI_1, ni_1shl (by omega), ni_or]; exact ih
  exact main 3 0 (by omega)
theorem j_count {A : Prop} (ha : A) {k : KD} (hk : KOk k) {w dep al own lst : Nat → Int32} (hw : WR k w) (hW : WkR k w dep al own lst) {mw xw thrown p : Int32} {mb xb : Nat → Int32} (hP : PageR mw mb xw xb) {K : Int32 → Prop} (kk : K 0) : F_X11_count xw (nI (kEl k)) (nI (kDk k).toNat) (nI (kRl k)) (nI (kSz k)) dep p (fun r => A ∧ F_X12_count mw w thrown p (fun r2 th => (r = r2 → K th) ∧ (¬ r = r2 → False))) := by
  obtain ⟨W, w1, rfl, rfl, w4⟩ := hP
  have fin : ∀ x y : Int32, x = y → ((x = y → K 0) ∧ (¬ x = y → False)) := fun x y e => ⟨fun _ => kk, fun g => g e⟩
  have m : ∀ v : Int32, ((p = 0 → v = nI (kSz k)) ∧ (p = 1 → v = nI (kDk k).toNat) ∧ (p = 2 → v = nI (kRl k)) ∧ (p = 3 → v = nI (kEl k)) ∧ (p = 4 → v = nI (wsF w 3)) ∧ (p = 5 → v = nI W) ∧ (¬ p = 0 → ¬ p = 1 → ¬ p = 2 → ¬ p = 3 → ¬ p = 4 → ¬ p = 5 → v = -1)) → F_X12_count (nI W) w thrown p (fun r2 th => (v = r2 → K th) ∧ (¬ v = r2 → False)) := by
    intro v h
    obtain ⟨h0, h1, h2, h3, h4, h5, h6⟩ := h
    unfold F_X12_count
    refine ⟨fun e => ⟨vp_in_nI (n := 0) (by decide) (by decide), fin _ _ ((h0 e).trans hw.1.symm)⟩, fun e => ⟨vp_in_nI (n := 1) (by decide) (by decide), fin _ _ ((h1 e).trans hw.2.1.symm)⟩, fun e => ⟨vp_in_nI (n := 16) (by decide) (by decide), fin _ _ ((h2 e).trans hw.2.2.2.2.2.2.2.2.2.2.1.symm)⟩, fun e => ⟨vp_in_nI (n := 17) (by decide) (by decide), fin _ _ ((h3 e).trans hw.2.2.2.2.2.2.2.2.2.2.2.symm)⟩, fun e => f_walkers hW (fin _ _ (h4 e)), fun e => fin _ _ (h5 e), fun g0 g1 g2 g3 g4 g5 => fin _ _ (h6 g0 g1 g2 g3 g4 g5)⟩
  have d01 : ∀ a b : Int32, a ≠ b → p = a → ¬ p = b := fun a b h e g => h (e.symm.trans g)
  unfold F_X11_count F_X11_count_63
  refine ⟨fun e => ⟨ha, m _ ?_⟩, fun e => ⟨fun g => ⟨ha, m _ ?_⟩, fun g => ⟨ha, m _ ?_⟩⟩, fun e => ⟨ha, m _ ?_⟩, fun e => ⟨ha, m _ ?_⟩, fun e => f_withShare hk hW ⟨ha, m _ ?_⟩, fun e => ⟨ha, m _ ?_⟩, fun g0 g1 g2 g3 g4 g5 => ⟨ha, m _ ?_⟩⟩
  · subst e; exact ⟨fun _ => rfl, fun e => absurd e (by decide), fun e => absurd e (by decide), fun e => absurd e (by decide), fun e => absurd e (by decide), fun e => absurd e (by decide), fun e => absurd rfl e⟩
  · subst e; exact ⟨fun e => absurd e (by decide), fun _ => g.symm, fun e => absurd e (by decide), fun e => absurd e (by decide), fun e => absurd e (by decide), fun e => absurd e (by decide), fun _ e => absurd rfl e⟩
  · subst e; exact ⟨fun e => absurd e (by decide), fun _ => by rw [bnn g]; rfl, fun e => absurd e (by decide), fun e => absurd e (by decide), fun e => absurd e (by decide), fun e => absurd e (by decide), fun _ e => absurd rfl e⟩
  · subst e; exact ⟨fun e => absurd e (by decide), fun e => absurd e (by decide), fun _ => rfl, fun e => absurd e (by decide), fun e => absurd e (by decide), fun e => absurd e (by decide), fun _ _ e => absurd rfl e⟩
  · subst e; exact ⟨fun e => absurd e (by decide), fun e => absurd e (by decide), fun e => absurd e (by decide), fun _ => rfl, fun e => absurd e (by decide), fun e => absurd e (by decide), fun _ _ _ e => absurd rfl e⟩
  · subst e; exact ⟨fun e => absurd e (by decide), fun e => absurd e (by decide), fun e => absurd e (by decide), fun e => absurd e (by decide), fun _ => rfl, fun e => absurd e (by decide), fun _ _ _ _ e => absurd rfl e⟩
  · subst e; exact ⟨fun e => absurd e (by decide), fun e => absurd e (by decide), fun e => absurd e (by decide), fun e => absurd e (by decide), fun e => absurd e (by decide), fun _ => rfl, fun _ _ _ _ _ e => absurd rfl e⟩
  · exact ⟨fun e => absurd e g0, fun e => absurd e g1, fun e => absurd e g2, fun e => absurd e g3, fun e => absurd e g4, fun e => absurd e g5, fun _ _ _ _ _ _ => rfl⟩
theorem lc35 (xs : Nat → Int32) (L : Nat) (hL3 : L ≤ 3072) : LC35 xs L IInv := by
  unfold LC35
  intro x4 m_begin m_dark m_end m_faultAt m_form m_hasImage m_heldDark m_lasts m_nodes m_pairs m_point m_symmetries m_taped m_thrown m_toldEdges m_toldForm m_toldNodes m_toldSymmetries m_writtenMany m_by m_decks m_draft m_firstOrder m_five m_forms m_held m_image m_many m_order m_seen m_tape m_toldOrder m_world m_written o x_hasImage x_cycleSums_edges x_cycleSums_hasDark x_cycleSums_parts x_cycleSums_ways x_decks x_draft_bannedCircles x_draft_endLines x_draft_endsJoined x_draft_fewestEdges x_draft_hasDark x_draft_least x_draft_most x_draft_mostEdges x_draft_patterns x_draft_ruleLines x_draft_size x_draft_unlike x_draft_words x_draft_patternCodes x_draft_patternNodes x_forms_allBits x_forms_firstOrder x_forms_isBeaten x_forms_isStudy x_forms_isTest x_forms_least x_forms_nodes x_forms_order x_forms_seen x_forms_stillEdges x_forms_symmetries x_forms_sketch_colours x_forms_sketch_darks x_forms_sketch_nodes x_forms_sketch_fans x_forms_sketch_near x_keptLevels_total x_keptLevels_codes x_keptLevels_firsts x_keptRules_bannedCircles x_keptRules_endLines x_keptRules_endsJoined x_keptRules_fewestEdges x_keptRules_hasDark x_keptRules_least x_keptRules_most x_keptRules_mostEdges x_keptRules_patterns x_keptRules_ruleLines x_keptRules_size x_keptRules_unlike x_keptRules_words x_keptRules_patternCodes x_keptRules_patternNodes x_keptWalkers_allParts x_keptWalkers_depths x_keptWalkers_lists x_keptWalkers_ownParts x_levels_total x_levels_codes x_levels_firsts x_match_best x_match_code x_match_one_colours x_match_one_darks x_match_one_nodes x_match_one_fans x_match_one_near x_match_two_colours x_match_two_darks x_match_two_nodes x_match_two_fans x_match_two_near x_page_length x_page_bytes x_rules_bannedCircles x_rules_endLines x_rules_endsJoined x_rules_fewestEdges x_rules_hasDark x_rules_least x_rules_most x_rules_mostEdges x_rules_patterns x_rules_ruleLines x_rules_size x_rules_unlike x_rules_words x_rules_patternCodes x_rules_patternNodes x_sketch_colours x_sketch_darks x_sketch_nodes x_sketch_fans x_sketch_near x_tape_begun x_tape_length x_tape_position x_tape_wrong x_tape_bytes x_texts_code x_texts_nodes x_toldForms_allBits x_toldForms_firstOrder x_toldForms_isBeaten x_toldForms_isStudy x_toldForms_isTest x_toldForms_least x_toldForms_nodes x_toldForms_order x_toldForms_seen x_toldForms_stillEdges x_toldForms_symmetries x_toldForms_sketch_colours x_toldForms_sketch_darks x_toldForms_sketch_nodes x_toldForms_sketch_fans x_toldForms_sketch_near x_walkers_allParts x_walkers_depths x_walkers_lists x_walkers_ownParts hx0 hxL hI
  obtain ⟨k, hT, hK, hW, hG, hD, hO, hP⟩ := hI
  obtain ⟨hk, hw, ⟨q1, q2, q3, q4, q5, q6, q7, q8, q9, q10, q11, q12, hp⟩, hL, hU⟩ := hK
  subst q1 q2 q3 q4 q5 q6 q7 q8 q9 q10 q11 q12
  have hsz := size_le hk
  have a1 := arg_in hx0 hxL (by omega) (j := 1) (by omega)
  have a2 := arg_in hx0 hxL (by omega) (j := 2) (by omega)
  have a3 := arg_in hx0 hxL (by omega) (j := 3) (by omega)
  have a4 := arg_in hx0 hxL (by omega) (j := 4) (by omega)
  have a5 := arg_in hx0 hxL (by omega) (j := 5) (by omega)
  have o0 := vp_in_nI (n := 0) (N := 1) (by decide) (by decide)
  
  unfold F_law_c35
  exact ⟨a1, j_count a1 hk hw hW hP ⟨rfl, k, hT, ⟨hk, hw, ⟨rfl, rfl, rfl, rfl, rfl, rfl, rfl, rfl, rfl, rfl, rfl, rfl, hp⟩, hL, hU⟩, hW, hG, hD, hO, hP⟩⟩
