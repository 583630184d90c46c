/-! the tape -/
def byt (x : Int32) (j : Nat) : Int32 := x >>> (nI (24 - 8 * j) &&& 31)
theorem and_and_255 (x : Int32) : (x &&& 255).toInt8 = x.toInt8 := by
  apply Int8.toBitVec_inj.1
  rw [Int32.toBitVec_toInt8, Int32.toBitVec_toInt8]
  apply BitVec.eq_of_getLsbD_eq
  intro i hi
  rw [BitVec.getLsbD_signExtend, BitVec.getLsbD_signExtend, Int32.toBitVec_and, BitVec.getLsbD_and]
  have h : ∀ i, i < 8 → ((255 : Int32).toBitVec).getLsbD i = true := by decide
  have h2 : ((x.toBitVec &&& (255 : Int32).toBitVec).getLsbD i) = x.toBitVec.getLsbD i := by rw [BitVec.getLsbD_and, h i hi, Bool.and_true]
  have h3 : i < 32 := by omega
  simp only [hi, decide_true, Bool.true_and, h3, if_true, BitVec.getLsbD_and, h i hi, Bool.and_true]
theorem byte_of (y : Int32) : ∃ v, v < 256 ∧ y &&& 255 = nI v ∧ vp_nar .byte y.toInt8.toInt32 = sgn v := by
  obtain ⟨m, hm⟩ : ∃ m : Nat, y = nI m := ⟨y.toBitVec.toNat, Int32.toBitVec_inj.mp (by show _ = BitVec.ofNat 32 _; simp)⟩
  have e : y &&& 255 = nI (m % 256) := by
    rw [hm]
    show nI m &&& nI (2 ^ 8 - 1) = _
    rw [ni_and, Nat.and_two_pow_sub_one_eq_mod]
  refine ⟨m % 256, Nat.mod_lt _ (by decide), e, ?_⟩
  have h : ∀ v, v < 256 → vp_nar .byte ((nI v).toInt8.toInt32) = sgn v := by decide +kernel
  rw [← and_and_255, e]
  exact h _ (Nat.mod_lt _ (by decide))
theorem ap_3 {x : Int32} {T : Nat} (hT : T ≤ 396) {b0 : Nat → Int32} {post : Int32 → (Nat → Int32) → Prop} (K : ∀ b, (∀ j, j < T → b j = b0 j) → (∀ j, j < 4 → b (T + j) = byt x j &&& 255) → post (nI (T + 4)) b) : ∀ r s (b : Nat → Int32), r + s = 4 → (∀ j, j < T → b j = b0 j) → (∀ j, j < s → b (T + j) = byt x j &&& 255) → F_X8_append_3 post (r + 1) x (nI (8 * r) + (-8)) (nI (T + s)) b
  | 0, s, b, hs, h1, h2 => by
    have : s = 4 := by omega
    subst this
    unfold F_X8_append_3
    exact br1 (by decide) (K b h1 h2)
  | r + 1, s, b, hs, h1, h2 => by
    unfold F_X8_append_3 F_X8_append_52
    have e : nI (8 * (r + 1)) + (-8) = nI (8 * r) := by
      rw [show 8 * (r + 1) = 8 * r + 8 by omega, ← nI_add, Int32.add_assoc]
      show nI (8 * r) + 0 = _
      rw [Int32.add_zero]
    rw [e]
    refine br2 (nI_pos (by omega)) (br2 (nI_pos (by omega)) (br2 (nI_ge (b := 400) (by omega) (by decide)) ⟨vp_in_nI (by omega) (by decide), ?_⟩))
    rw [nI_clamp (by omega), nI_1]
    refine ap_3 hT K r (s + 1) _ (by omega) (fun j hj => ?_) (fun j hj => ?_)
    · rw [upd_out (by omega)]; exact h1 j hj
    · by_cases g : j = s
      · subst g
        rw [upd_in]
        unfold byt
        rw [show 24 - 8 * j = 8 * r by omega]
      · rw [upd_out (by omega)]; exact h2 j (by omega)
theorem f_append {x : Int32} {T : Nat} (hT : T ≤ 396) {b0 : Nat → Int32} {post : Int32 → (Nat → Int32) → Prop} (K : ∀ b, (∀ j, j < T → b j = b0 j) → (∀ j, j < 4 → b (T + j) = byt x j &&& 255) → post (nI (T + 4)) b) : F_X8_append (nI T) b0 x post := by
  unfold F_X8_append
  exact ⟨5, ap_3 hT K 4 0 b0 (by omega) (fun j _ => rfl) (fun j hj => absurd hj (Nat.not_lt_zero _))⟩
def sel5 (p1 p2 p3 p4 p5 : Int32) (q : Nat) : Int32 := if q = 0 then p1 else if q = 1 then p2 else if q = 2 then p3 else if q = 3 then p4 else p5
theorem f_feedX {T : Nat} (hT : T + 20 ≤ 400) {b0 : Nat → Int32} {p1 p2 p3 p4 p5 : Int32} {post : Int32 → Int32 → (Nat → Int32) → Prop} (K : ∀ b, (∀ j, j < T → b j = b0 j) → (∀ q j, q < 5 → j < 4 → b (T + 4 * q + j) = byt (sel5 p1 p2 p3 p4 p5 q) j &&& 255) → post (nI (T + 20)) (nI (T + 20)) b) : F_X11_feed (nI T) b0 p1 p2 p3 p4 p5 post := by
  unfold F_X11_feed F_X8_hasRoom F_X8_hasRoom_18
  have e : nI T + 20 = nI (T + 20) := nI_add T 20
  rw [e]
  refine br2 (nI_nlt (a := 400) hT (by decide)) ⟨by decide, br3 (by decide) ?_⟩
  refine f_append (by omega) (fun b1 h1 g1 => f_append (by omega) (fun b2 h2 g2 => f_append (by omega) (fun b3 h3 g3 => f_append (by omega) (fun b4 h4 g4 => f_append (by omega) (fun b5 h5 g5 => K b5 (fun j hj => ?_) (fun q j hq hj => ?_))))))
  · rw [h5 j (by omega), h4 j (by omega), h3 j (by omega), h2 j (by omega), h1 j hj]
  · rcases (by omega : q = 0 ∨ q = 1 ∨ q = 2 ∨ q = 3 ∨ q = 4) with rfl | rfl | rfl | rfl | rfl
    · rw [h5 _ (by omega), h4 _ (by omega), h3 _ (by omega), h2 _ (by omega)]
      exact g1 j hj
    · rw [h5 _ (by omega), h4 _ (by omega), h3 _ (by omega)]
      exact g2 j hj
    · rw [h5 _ (by omega), h4 _ (by omega)]
      exact g3 j hj
    · rw [h5 _ (by omega)]
      exact g4 j hj
    · exact g5 j hj
theorem fd_60 {T : Nat} (hT : T + 20 ≤ 400) {P five : Nat → Int32} (hP : ∀ q, q < 5 → five q = P q) {t0 : Nat → Int32} {th : Int32} {post : Int32 → Int32 → Int32 → (Nat → Int32) → (Nat → Int32) → Prop} (K : ∀ t, (∀ j, j < T → t j = t0 j) → (∀ i, i < 20 → t (T + i) = vp_nar .byte (byt (P (i / 4)) (i % 4)).toInt8.toInt32) → post (nI (T + 20)) (nI (T + 20)) th five t) : ∀ r i (t : Nat → Int32), r + i = 20 → (∀ j, j < T → t j = t0 j) → (∀ j, j < i → t (T + j) = vp_nar .byte (byt (P (j / 4)) (j % 4)).toInt8.toInt32) → F_X12_feed_60 post (r + 1) (nI i) (nI T) th five t
  | 0, i, t, hi, h1, h2 => by
    have : i = 20 := by omega
    subst this
    unfold F_X12_feed_60
    have e : nI T + 20 = nI (T + 20) := nI_add T 20
    rw [e]
    exact br1 (by decide) (K t h1 h2)
  | r + 1, i, t, hi, h1, h2 => by
    unfold F_X12_feed_60
    have e4 : nI i / 4 = nI (i / 4) := ni_div (b := 4) (by omega) (by decide) (by decide)
    have es : (24 : Int32) - 8 * (nI i - nI (i / 4) * 4) = nI (24 - 8 * (i % 4)) := by
      have : nI (i / 4) * 4 = nI (i / 4 * 4) := ni_mul _ 4
      rw [this, ni_sub (by omega)]
      have : (8 : Int32) * nI (i - i / 4 * 4) = nI (8 * (i - i / 4 * 4)) := ni_mul 8 _
      rw [this]
      show nI 24 - _ = _
      rw [ni_sub (by omega)]
      congr 1; omega
    rw [e4, es, nI_add]
    refine br2 (nI_ge (b := 20) (by omega) (by decide)) ⟨vp_in_nI (by omega) (by decide), vp_in_nI (by omega) (by decide), ?_⟩
    rw [nI_clamp (by omega), nI_clamp (by omega), nI_1, hP _ (by omega)]
    refine fd_60 hT hP K r (i + 1) _ (by omega) (fun j hj => ?_) (fun j hj => ?_)
    · rw [upd_out (by omega)]; exact h1 j hj
    · by_cases g : j = i
      · subst g; rw [upd_in]; rfl
      · rw [upd_out (by omega)]; exact h2 j (by omega)
theorem five_at {f : Nat → Int32} {p1 p2 p3 p4 p5 : Int32} : ∀ q, q < 5 → upd (upd (upd (upd (upd f 0 p1) 1 p2) 2 p3) 3 p4) 4 p5 q = sel5 p1 p2 p3 p4 p5 q := by
  intro q hq
  unfold upd sel5
  rcases (by omega : q = 0 ∨ q = 1 ∨ q = 2 ∨ q = 3 ∨ q = 4) with rfl | rfl | rfl | rfl | rfl <;> simp
theorem lc0 (xs : Nat → Int32) (L : Nat) (hL3 : L ≤ 3072) : LC0 xs L IInv := by
  unfold LC0
  intro x4 m_begin m_dark m_end m_faultAt m_form m_hasImage m_heldDark m_lasts m_nodes m_pairs m_point m_symmetries m_taped m_thrown m_toldEdges m_toldForm m_toldNodes m_toldSymmetries m_writtenMany m_by m_decks m_draft m_firstOrder m_five m_forms m_held m_image m_many m_order m_seen m_tape m_toldOrder m_world m_written o x_hasImage x_cycleSums_edges x_cycleSums_hasDark x_cycleSums_parts x_cycleSums_ways x_decks x_draft_bannedCircles x_draft_endLines x_draft_endsJoined x_draft_fewestEdges x_draft_hasDark x_draft_least x_draft_most x_draft_mostEdges x_draft_patterns x_draft_ruleLines x_draft_size x_draft_unlike x_draft_words x_draft_patternCodes x_draft_patternNodes x_forms_allBits x_forms_firstOrder x_forms_isBeaten x_forms_isStudy x_forms_isTest x_forms_least x_forms_nodes x_forms_order x_forms_seen x_forms_stillEdges x_forms_symmetries x_forms_sketch_colours x_forms_sketch_darks x_forms_sketch_nodes x_forms_sketch_fans x_forms_sketch_near x_keptLevels_total x_keptLevels_codes x_keptLevels_firsts x_keptRules_bannedCircles x_keptRules_endLines x_keptRules_endsJoined x_keptRules_fewestEdges x_keptRules_hasDark x_keptRules_least x_keptRules_most x_keptRules_mostEdges x_keptRules_patterns x_keptRules_ruleLines x_keptRules_size x_keptRules_unlike x_keptRules_words x_keptRules_patternCodes x_keptRules_patternNodes x_keptWalkers_allParts x_keptWalkers_depths x_keptWalkers_lists x_keptWalkers_ownParts x_levels_total x_levels_codes x_levels_firsts x_match_best x_match_code x_match_one_colours x_match_one_darks x_match_one_nodes x_match_one_fans x_match_one_near x_match_two_colours x_match_two_darks x_match_two_nodes x_match_two_fans x_match_two_near x_page_length x_page_bytes x_rules_bannedCircles x_rules_endLines x_rules_endsJoined x_rules_fewestEdges x_rules_hasDark x_rules_least x_rules_most x_rules_mostEdges x_rules_patterns x_rules_ruleLines x_rules_size x_rules_unlike x_rules_words x_rules_patternCodes x_rules_patternNodes x_sketch_colours x_sketch_darks x_sketch_nodes x_sketch_fans x_sketch_near x_tape_begun x_tape_length x_tape_position x_tape_wrong x_tape_bytes x_texts_code x_texts_nodes x_toldForms_allBits x_toldForms_firstOrder x_toldForms_isBeaten x_toldForms_isStudy x_toldForms_isTest x_toldForms_least x_toldForms_nodes x_toldForms_order x_toldForms_seen x_toldForms_stillEdges x_toldForms_symmetries x_toldForms_sketch_colours x_toldForms_sketch_darks x_toldForms_sketch_nodes x_toldForms_sketch_fans x_toldForms_sketch_near x_walkers_allParts x_walkers_depths x_walkers_lists x_walkers_ownParts hx0 hxL hI
  obtain ⟨k, hT, hK, hW, hG, hD, hO, hP⟩ := hI
  obtain ⟨hk, hw, ⟨q1, q2, q3, q4, q5, q6, q7, q8, q9, q10, q11, q12, hp⟩, hL, hU⟩ := hK
  subst q1 q2 q3 q4 q5 q6 q7 q8 q9 q10 q11 q12
  have hsz := size_le hk
  have a1 := arg_in hx0 hxL (by omega) (j := 1) (by omega)
  have a2 := arg_in hx0 hxL (by omega) (j := 2) (by omega)
  have a3 := arg_in hx0 hxL (by omega) (j := 3) (by omega)
  have a4 := arg_in hx0 hxL (by omega) (j := 4) (by omega)
  have a5 := arg_in hx0 hxL (by omega) (j := 5) (by omega)
  have o0 := vp_in_nI (n := 0) (N := 1) (by decide) (by decide)
  
  unfold F_law_c0
  refine ⟨a1, a2, a3, a4, a5, ?_⟩
  generalize xs (x4 + 1).toNatClampNeg = p1
  generalize xs (x4 + 2).toNatClampNeg = p2
  generalize xs (x4 + 3).toNatClampNeg = p3
  generalize xs (x4 + 4).toNatClampNeg = p4
  generalize xs (x4 + 5).toNatClampNeg = p5
  obtain ⟨t1, t2, T, t3, t4, t5⟩ := hT
  subst t1 t2 t4
  by_cases g : T + 20 ≤ 400
  · refine f_feedX g (fun b h1 h2 => ⟨a1, a2, a3, a4, a5, ?_⟩)
    unfold F_X12_feed
    have e : nI T + 20 = nI (T + 20) := nI_add T 20
    rw [e]
    refine br1 (nI_le (b := 400) g (by decide)) ⟨vp_in_nI (n := 0) (by decide) (by decide), vp_in_nI (n := 1) (by decide) (by decide), vp_in_nI (n := 2) (by decide) (by decide), vp_in_nI (n := 3) (by decide) (by decide), vp_in_nI (n := 4) (by decide) (by decide), 21, ?_⟩
    refine fd_60 (P := sel5 p1 p2 p3 p4 p5) g five_at (fun t h3 h4 => ⟨fun _ => ?_, fun e => absurd rfl e⟩) 20 0 _ (by omega) (fun j _ => rfl) (fun j hj => absurd hj (Nat.not_lt_zero _))
    refine ⟨rfl, k, ⟨rfl, rfl, T + 20, by omega, rfl, fun j hj => ?_⟩, ⟨hk, hw, ⟨rfl, rfl, rfl, rfl, rfl, rfl, rfl, rfl, rfl, rfl, rfl, rfl, hp⟩, hL, hU⟩, hW, hG, hD, hO, hP⟩
    by_cases c : j < T
    · rw [h1 j c, h3 j c]; exact t5 j c
    · obtain ⟨i, rfl⟩ : ∃ i, j = T + i := ⟨j - T, by omega⟩
      obtain ⟨v, v1, v2, v3⟩ := byte_of (byt (sel5 p1 p2 p3 p4 p5 (i / 4)) (i % 4))
      refine ⟨v, v1, ?_, ?_⟩
      · have := h2 (i / 4) (i % 4) (by omega) (by omega)
        rw [show T + 4 * (i / 4) + i % 4 = T + i by omega] at this
        rw [this, v2]
      · rw [h4 i (by omega), v3]
  · unfold F_X11_feed F_X8_hasRoom F_X8_hasRoom_18 F_X12_feed
    have e : nI T + 20 = nI (T + 20) := nI_add T 20
    rw [e]
    refine br1 (nI_lt (a := 400) (by omega) (by omega)) ⟨by decide, br4 rfl ⟨a1, a2, a3, a4, a5, br2 (nI_ge (b := T + 20) (a := 400) (by omega) (by omega)) ⟨fun _ => ?_, fun e => absurd rfl e⟩⟩⟩
    exact ⟨rfl, k, ⟨rfl, rfl, T, t3, rfl, t5⟩, ⟨hk, hw, ⟨rfl, rfl, rfl, rfl, rfl, rfl, rfl, rfl, rfl, rfl, rfl, rfl, hp⟩, hL, hU⟩, hW, hG, hD, hO, hP⟩
theorem j_end1 {A : Prop} (ha : A) {T : Nat} (hT : T ≤ 400) {thrown p1 : Int32} {K : Int32 → Int32 → Int32 → Prop} (k : ∀ N, N ≤ T → K (nI N) 0 (nI N)) : F_X11_end (nI T) p1 (fun r1 l1 => A ∧ F_X12_end (nI T) thrown p1 (fun r2 t2 th2 => (r1 = r2 → K t2 th2 l1) ∧ (¬ r1 = r2 → False))) := by
  unfold F_X11_end F_X12_end F_X11_end_15 F_X12_end_17
  refine ⟨fun g => ⟨by decide, ha, br1 g ⟨by decide, fun _ => k T (Nat.le_refl _), fun e => absurd rfl e⟩⟩, fun g => ⟨fun g2 => ⟨ha, br2 g (br1 g2 ⟨fun _ => ?_, fun e => absurd rfl e⟩)⟩, fun g2 => ⟨by decide, ha, br2 g (br2 g2 ⟨by decide, fun _ => k T (Nat.le_refl _), fun e => absurd rfl e⟩)⟩⟩⟩
  obtain ⟨N, hN, rfl⟩ := nI_of g
  exact k N ((nI_leI hN (by omega)).mp g2)
theorem nI_pred_int {W : Nat} (h : W < 2 ^ 31) : (nI W - 1).toInt = (W : Int) - 1 := by
  rw [Int32.toInt_sub, nI_toInt (by omega)]
  have : (1 : Int32).toInt = 1 := by decide
  rw [this]
  apply Int.bmod_eq_of_le <;> omega
theorem f_in_len {p : Int32} {W : Nat} (hW : W < 2 ^ 31) (h : p < 0 ∨ nI W ≤ p) {post : Int32 → Prop} (K : post 0) : F_X12_in p 0 (nI W - 1) post := by
  refine f_in_n ?_ K
  rcases h with h | h
  · exact Or.inl h
  · right
    rw [Int32.le_iff_toInt_le, nI_toInt hW] at h
    rw [Int32.lt_iff_toInt_lt, nI_pred_int hW]
    omega
theorem f_in_lenY {i W : Nat} (hW : W < 2 ^ 31) (h : i < W) {post : Int32 → Prop} (K : post 1) : F_X12_in (nI i) 0 (nI W - 1) post := by
  have e2 : nI W - 1 = nI (W - 1) := by show nI _ - nI 1 = _; rw [ni_sub (by omega)]
  rw [e2]
  exact f_in_y (a := 0) (by omega) (by omega) (by omega) K
theorem j_octet {A : Prop} (ha : A) {mw xw thrown p : Int32} {mb xb : Nat → Int32} (hP : PageR mw mb xw xb) {K : Int32 → Prop} (k : K 0) : F_X11_octet xw xb p (fun r => A ∧ F_X12_octet mw mb thrown p (fun r2 th => (r = r2 → K th) ∧ (¬ r = r2 → False))) := by
  obtain ⟨W, w1, rfl, rfl, w4⟩ := hP
  unfold F_X11_octet F_X5_at F_X5_at_30 F_X5_at_31 F_X12_octet F_X12_octet_29
  refine ⟨fun g => ⟨ha, f_in_len (by omega) (Or.inl g) (br1 rfl ⟨fun _ => k, fun e => absurd rfl e⟩)⟩, fun g => ⟨fun g2 => ⟨ha, f_in_len (by omega) (Or.inr g2) (br1 rfl ⟨fun _ => k, fun e => absurd rfl e⟩)⟩, fun g2 => ?_⟩⟩
  obtain ⟨i, hi, rfl⟩ := nI_of g
  have hiW : i < W := Nat.lt_of_not_le (fun e => g2 (nI_le e hi))
  refine br2 (nI_ge (b := 96) (by omega) (by decide)) ⟨vp_in_nI (by omega) (by decide), ha, f_in_lenY (by omega) hiW (br2 (by decide) ⟨vp_in_nI (by omega) (by decide), ?_⟩)⟩
  rw [nI_clamp (by omega)]
  exact ⟨fun _ => k, fun e => e (w4 i hiW).symm⟩
theorem lc1 (xs : Nat → Int32) (L : Nat) (hL3 : L ≤ 3072) : LC1 xs L IInv := by
  unfold LC1
  intro x4 m_begin m_dark m_end m_faultAt m_form m_hasImage m_heldDark m_lasts m_nodes m_pairs m_point m_symmetries m_taped m_thrown m_toldEdges m_toldForm m_toldNodes m_toldSymmetries m_writtenMany m_by m_decks m_draft m_firstOrder m_five m_forms m_held m_image m_many m_order m_seen m_tape m_toldOrder m_world m_written o x_hasImage x_cycleSums_edges x_cycleSums_hasDark x_cycleSums_parts x_cycleSums_ways x_decks x_draft_bannedCircles x_draft_endLines x_draft_endsJoined x_draft_fewestEdges x_draft_hasDark x_draft_least x_draft_most x_draft_mostEdges x_draft_patterns x_draft_ruleLines x_draft_size x_draft_unlike x_draft_words x_draft_patternCodes x_draft_patternNodes x_forms_allBits x_forms_firstOrder x_forms_isBeaten x_forms_isStudy x_forms_isTest x_forms_least x_forms_nodes x_forms_order x_forms_seen x_forms_stillEdges x_forms_symmetries x_forms_sketch_colours x_forms_sketch_darks x_forms_sketch_nodes x_forms_sketch_fans x_forms_sketch_near x_keptLevels_total x_keptLevels_codes x_keptLevels_firsts x_keptRules_bannedCircles x_keptRules_endLines x_keptRules_endsJoined x_keptRules_fewestEdges x_keptRules_hasDark x_keptRules_least x_keptRules_most x_keptRules_mostEdges x_keptRules_patterns x_keptRules_ruleLines x_keptRules_size x_keptRules_unlike x_keptRules_words x_keptRules_patternCodes x_keptRules_patternNodes x_keptWalkers_allParts x_keptWalkers_depths x_keptWalkers_lists x_keptWalkers_ownParts x_levels_total x_levels_codes x_levels_firsts x_match_best x_match_code x_match_one_colours x_match_one_darks x_match_one_nodes x_match_one_fans x_match_one_near x_match_two_colours x_match_two_darks x_match_two_nodes x_match_two_fans x_match_two_near x_page_length x_page_bytes x_rules_bannedCircles x_rules_endLines x_rules_endsJoined x_rules_fewestEdges x_rules_hasDark x_rules_least x_rules_most x_rules_mostEdges x_rules_patterns x_rules_ruleLines x_rules_size x_rules_unlike x_rules_words x_rules_patternCodes x_rules_patternNodes x_sketch_colours x_sketch_darks x_sketch_nodes x_sketch_fans x_sketch_near x_tape_begun x_tape_length x_tape_position x_tape_wrong x_tape_bytes x_texts_code x_texts_nodes x_toldForms_allBits x_toldForms_firstOrder x_toldForms_isBeaten x_toldForms_isStudy x_toldForms_isTest x_toldForms_least x_toldForms_nodes x_toldForms_order x_toldForms_seen x_toldForms_stillEdges x_toldForms_symmetries x_toldForms_sketch_colours x_toldForms_sketch_darks x_toldForms_sketch_nodes x_toldForms_sketch_fans x_toldForms_sketch_near x_walkers_allParts x_walkers_depths x_walkers_lists x_walkers_ownParts hx0 hxL hI
  obtain ⟨k, hT, hK, hW, hG, hD, hO, hP⟩ := hI
  obtain ⟨hk, hw, ⟨q1, q2, q3, q4, q5, q6, q7, q8, q9, q10, q11, q12, hp⟩, hL, hU⟩ := hK
  subst q1 q2 q3 q4 q5 q6 q7 q8 q9 q10 q11 q12
  have hsz := size_le hk
  have a1 := arg_in hx0 hxL (by omega) (j := 1) (by omega)
  have a2 := arg_in hx0 hxL (by omega) (j := 2) (by omega)
  have a3 := arg_in hx0 hxL (by omega) (j := 3) (by omega)
  have a4 := arg_in hx0 hxL (by omega) (j := 4) (by omega)
  have a5 := arg_in hx0 hxL (by omega) (j := 5) (by omega)
  have o0 := vp_in_nI (n := 0) (N := 1) (by decide) (by decide)
  
  unfold F_law_c1
  obtain ⟨t1, t2, T, t3, t4, t5⟩ := hT
  subst t1 t2 t4
  refine ⟨a1, j_end1 a1 t3 (fun N hN => ?_)⟩
  exact ⟨rfl, k, ⟨rfl, rfl, N, by omega, rfl, fun j hj => t5 j (by omega)⟩, ⟨hk, hw, ⟨rfl, rfl, rfl, rfl, rfl, rfl, rfl, rfl, rfl, rfl, rfl, rfl, hp⟩, hL, hU⟩, hW, hG, hD, hO, hP⟩
theorem lc32 (xs : Nat → Int32) (L : Nat) (hL3 : L ≤ 3072) : LC32 xs L IInv := by
  unfold LC32
  intro x4 m_begin m_dark m_end m_faultAt m_form m_hasImage m_heldDark m_lasts m_nodes m_pairs m_point m_symmetries m_taped m_thrown m_toldEdges m_toldForm m_toldNodes m_toldSymmetries m_writtenMany m_by m_decks m_draft m_firstOrder m_five m_forms m_held m_image m_many m_order m_seen m_tape m_toldOrder m_world m_written o x_hasImage x_cycleSums_edges x_cycleSums_hasDark x_cycleSums_parts x_cycleSums_ways x_decks x_draft_bannedCircles x_draft_endLines x_draft_endsJoined x_draft_fewestEdges x_draft_hasDark x_draft_least x_draft_most x_draft_mostEdges x_draft_patterns x_draft_ruleLines x_draft_size x_draft_unlike x_draft_words x_draft_patternCodes x_draft_patternNodes x_forms_allBits x_forms_firstOrder x_forms_isBeaten x_forms_isStudy x_forms_isTest x_forms_least x_forms_nodes x_forms_order x_forms_seen x_forms_stillEdges x_forms_symmetries x_forms_sketch_colours x_forms_sketch_darks x_forms_sketch_nodes x_forms_sketch_fans x_forms_sketch_near x_keptLevels_total x_keptLevels_codes x_keptLevels_firsts x_keptRules_bannedCircles x_keptRules_endLines x_keptRules_endsJoined x_keptRules_fewestEdges x_keptRules_hasDark x_keptRules_least x_keptRules_most x_keptRules_mostEdges x_keptRules_patterns x_keptRules_ruleLines x_keptRules_size x_keptRules_unlike x_keptRules_words x_keptRules_patternCodes x_keptRules_patternNodes x_keptWalkers_allParts x_keptWalkers_depths x_keptWalkers_lists x_keptWalkers_ownParts x_levels_total x_levels_codes x_levels_firsts x_match_best x_match_code x_match_one_colours x_match_one_darks x_match_one_nodes x_match_one_fans x_match_one_near x_match_two_colours x_match_two_darks x_match_two_nodes x_match_two_fans x_match_two_near x_page_length x_page_bytes x_rules_bannedCircles x_rules_endLines x_rules_endsJoined x_rules_fewestEdges x_rules_hasDark x_rules_least x_rules_most x_rules_mostEdges x_rules_patterns x_rules_ruleLines x_rules_size x_rules_unlike x_rules_words x_rules_patternCodes x_rules_patternNodes x_sketch_colours x_sketch_darks x_sketch_nodes x_sketch_fans x_sketch_near x_tape_begun x_tape_length x_tape_position x_tape_wrong x_tape_bytes x_texts_code x_texts_nodes x_toldForms_allBits x_toldForms_firstOrder x_toldForms_isBeaten x_toldForms_isStudy x_toldForms_isTest x_toldForms_least x_toldForms_nodes x_toldForms_order x_toldForms_seen x_toldForms_stillEdges x_toldForms_symmetries x_toldForms_sketch_colours x_toldForms_sketch_darks x_toldForms_sketch_nodes x_toldForms_sketch_fans x_toldForms_sketch_near x_walkers_allParts x_walkers_depths x_walkers_lists x_walkers_ownParts hx0 hxL hI
  obtain ⟨k, hT, hK, hW, hG, hD, hO, hP⟩ := hI
  obtain ⟨hk, hw, ⟨q1, q2, q3, q4, q5, q6, q7, q8, q9, q10, q11, q12, hp⟩, hL, hU⟩ := hK
  subst q1 q2 q3 q4 q5 q6 q7 q8 q9 q10 q11 q12
  have hsz := size_le hk
  have a1 := arg_in hx0 hxL (by omega) (j := 1) (by omega)
  have a2 := arg_in hx0 hxL (by omega) (j := 2) (by omega)
  have a3 := arg_in hx0 hxL (by omega) (j := 3) (by omega)
  have a4 := arg_in hx0 hxL (by omega) (j := 4) (by omega)
  have a5 := arg_in hx0 hxL (by omega) (j := 5) (by omega)
  have o0 := vp_in_nI (n := 0) (N := 1) (by decide) (by decide)
  
  unfold F_law_c32
  exact ⟨a1, j_octet a1 hP ⟨rfl, k, hT, ⟨hk, hw, ⟨rfl, rfl, rfl, rfl, rfl, rfl, rfl, rfl, rfl, rfl, rfl, rfl, hp⟩, hL, hU⟩, hW, hG, hD, hO, hP⟩⟩
