/-! a line turned -/
def tB (B : Nat → Nat) (a b v : Nat) : Nat := if v = a then B a ^^^ 2 ^ b else if v = b then B b ^^^ 2 ^ a else B v
def lineOk (n a b : Nat) : Bool := a == b || ((List.range n).all (fun v => LN n - 1 - LN v != LN n - 2 - LN (max a b) - min a b) && ((List.range n).all (fun u => (List.range n).all (fun w => u == w || ((LN n - 2 - LN (max a b) - min a b == LN n - 2 - LN (max u w) - min u w) == ((u == a && w == b) || (u == b && w == a))))) && decide (2 ^ (LN n - 2 - LN (max a b) - min a b) < 2 ^ LN n)))
theorem lineOk_all : ∀ n, n ≤ 6 → ∀ a, a < n → ∀ b, b < n → lineOk n a b = true := by decide +kernel
theorem line_at (n : Nat) (hn : n ≤ 6) (a : Nat) (ha : a < n) (b : Nat) (hb : b < n) (hab : a ≠ b) : (∀ v, v < n → LN n - 1 - LN v ≠ LN n - 2 - LN (max a b) - min a b) ∧ (∀ u, u < n → ∀ w, w < n → u ≠ w → (LN n - 2 - LN (max a b) - min a b = LN n - 2 - LN (max u w) - min u w ↔ ((u = a ∧ w = b) ∨ (u = b ∧ w = a)))) ∧ 2 ^ (LN n - 2 - LN (max a b) - min a b) < 2 ^ LN n := by
  have h := lineOk_all n hn a ha b hb
  unfold lineOk at h
  rw [beq_eq_false_iff_ne.mpr hab, Bool.false_or, Bool.and_eq_true, Bool.and_eq_true, decide_eq_true_iff, List.all_eq_true, List.all_eq_true] at h
  obtain ⟨g1, g2, g3⟩ := h
  refine ⟨fun v hv => by simpa using g1 v (List.mem_range.mpr hv), fun u hu w hw huw => ?_, g3⟩
  have g := List.all_eq_true.mp (g2 u (List.mem_range.mpr hu)) w (List.mem_range.mpr hw)
  rw [beq_eq_false_iff_ne.mpr huw, Bool.false_or] at g
  have g := beq_iff_eq.mp g
  constructor
  · intro e
    rw [beq_iff_eq.mpr e] at g
    have g := g.symm
    simpa using g
  · intro e
    have : ((u == a && w == b) || (u == b && w == a)) = true := by simpa using e
    rw [this] at g
    exact beq_iff_eq.mp g
theorem turn_frm {n c a b : Nat} (hn : n ≤ 6) (ha : a < n) (hb : b < n) (hab : a ≠ b) : frm n (dkM n c) (tB (byM n c) a b) = frm n (dkM n (c ^^^ 2 ^ (LN n - 2 - LN (max a b) - min a b))) (byM n (c ^^^ 2 ^ (LN n - 2 - LN (max a b) - min a b))) := by
  obtain ⟨e1, e2, _⟩ := line_at n hn a ha b hb hab
  refine (frm_congr (fun l hl => cod_congr (fun v hv => ?_) (fun v hv u hu => ?_))).1
  · have hv := lex_mem hl v hv
    rw [dkM_tb, dkM_tb]
    unfold dkb
    rw [Nat.testBit_xor, Nat.testBit_two_pow, decide_eq_false (show ¬ (LN n - 2 - LN (max a b) - min a b = LN n - 1 - LN v) from fun e => e1 v hv e.symm), Bool.xor_false]
  · have hv := lex_mem hl v hv
    have hu := lex_mem hl u hu
    have hR : (byM n (c ^^^ 2 ^ (LN n - 2 - LN (max a b) - min a b)) v).testBit u = ((byM n c v).testBit u ^^ ((decide (v = a) && decide (u = b)) || (decide (v = b) && decide (u = a)))) := by
      rw [byM_tb, byM_tb, decide_eq_true hu, Bool.true_and, Bool.true_and]
      unfold egb
      by_cases e : v = u
      · subst e
        have : ((decide (v = a) && decide (v = b)) || (decide (v = b) && decide (v = a))) = false := by
          rcases Nat.decEq v a with h | h
          · rw [decide_eq_false h]; simp
          · subst h; rw [decide_eq_false hab]; simp
        rw [this]
        simp
      · rw [Nat.testBit_xor, Nat.testBit_two_pow, decide_eq_true e, Bool.true_and, Bool.true_and]
        congr 1
        rw [← Bool.decide_and, ← Bool.decide_and, ← Bool.decide_or]
        refine decide_eq_decide.mpr ?_
        exact e2 v hv u hu e
    rw [hR]
    unfold tB
    by_cases c1 : v = a
    · subst c1
      rw [if_pos rfl, Nat.testBit_xor, Nat.testBit_two_pow, decide_eq_false hab, decide_eq_true rfl, Bool.true_and, Bool.false_and, Bool.or_false]
      congr 1
      exact decide_eq_decide.mpr ⟨fun e => e.symm, fun e => e.symm⟩
    · rw [if_neg c1, decide_eq_false c1, Bool.false_and, Bool.false_or]
      by_cases c2 : v = b
      · subst c2
        rw [if_pos rfl, Nat.testBit_xor, Nat.testBit_two_pow, decide_eq_true rfl, Bool.true_and]
        congr 1
        exact decide_eq_decide.mpr ⟨fun e => e.symm, fun e => e.symm⟩
      · rw [if_neg c2, decide_eq_false c2, Bool.false_and, Bool.xor_false]
theorem lc16 (xs : Nat → Int32) (L : Nat) (hL3 : L ≤ 3072) : LC16 xs L IInv := by
  unfold LC16
  intro x4 m_begin m_dark m_end m_faultAt m_form m_hasImage m_heldDark m_lasts m_nodes m_pairs m_point m_symmetries m_taped m_thrown m_toldEdges m_toldForm m_toldNodes m_toldSymmetries m_writtenMany m_by m_decks m_draft m_firstOrder m_five m_forms m_held m_image m_many m_order m_seen m_tape m_toldOrder m_world m_written o x_hasImage x_cycleSums_edges x_cycleSums_hasDark x_cycleSums_parts x_cycleSums_ways x_decks x_draft_bannedCircles x_draft_endLines x_draft_endsJoined x_draft_fewestEdges x_draft_hasDark x_draft_least x_draft_most x_draft_mostEdges x_draft_patterns x_draft_ruleLines x_draft_size x_draft_unlike x_draft_words x_draft_patternCodes x_draft_patternNodes x_forms_allBits x_forms_firstOrder x_forms_isBeaten x_forms_isStudy x_forms_isTest x_forms_least x_forms_nodes x_forms_order x_forms_seen x_forms_stillEdges x_forms_symmetries x_forms_sketch_colours x_forms_sketch_darks x_forms_sketch_nodes x_forms_sketch_fans x_forms_sketch_near x_keptLevels_total x_keptLevels_codes x_keptLevels_firsts x_keptRules_bannedCircles x_keptRules_endLines x_keptRules_endsJoined x_keptRules_fewestEdges x_keptRules_hasDark x_keptRules_least x_keptRules_most x_keptRules_mostEdges x_keptRules_patterns x_keptRules_ruleLines x_keptRules_size x_keptRules_unlike x_keptRules_words x_keptRules_patternCodes x_keptRules_patternNodes x_keptWalkers_allParts x_keptWalkers_depths x_keptWalkers_lists x_keptWalkers_ownParts x_levels_total x_levels_codes x_levels_firsts x_match_best x_match_code x_match_one_colours x_match_one_darks x_match_one_nodes x_match_one_fans x_match_one_near x_match_two_colours x_match_two_darks x_match_two_nodes x_match_two_fans x_match_two_near x_page_length x_page_bytes x_rules_bannedCircles x_rules_endLines x_rules_endsJoined x_rules_fewestEdges x_rules_hasDark x_rules_least x_rules_most x_rules_mostEdges x_rules_patterns x_rules_ruleLines x_rules_size x_rules_unlike x_rules_words x_rules_patternCodes x_rules_patternNodes x_sketch_colours x_sketch_darks x_sketch_nodes x_sketch_fans x_sketch_near x_tape_begun x_tape_length x_tape_position x_tape_wrong x_tape_bytes x_texts_code x_texts_nodes x_toldForms_allBits x_toldForms_firstOrder x_toldForms_isBeaten x_toldForms_isStudy x_toldForms_isTest x_toldForms_least x_toldForms_nodes x_toldForms_order x_toldForms_seen x_toldForms_stillEdges x_toldForms_symmetries x_toldForms_sketch_colours x_toldForms_sketch_darks x_toldForms_sketch_nodes x_toldForms_sketch_fans x_toldForms_sketch_near x_walkers_allParts x_walkers_depths x_walkers_lists x_walkers_ownParts hx0 hxL hI
  obtain ⟨k, hT, hK, hW, hG, hD, hO, hP⟩ := hI
  obtain ⟨hk, hw, ⟨q1, q2, q3, q4, q5, q6, q7, q8, q9, q10, q11, q12, hp⟩, hL, hU⟩ := hK
  subst q1 q2 q3 q4 q5 q6 q7 q8 q9 q10 q11 q12
  have hsz := size_le hk
  have a1 := arg_in hx0 hxL (by omega) (j := 1) (by omega)
  have a2 := arg_in hx0 hxL (by omega) (j := 2) (by omega)
  have a3 := arg_in hx0 hxL (by omega) (j := 3) (by omega)
  have a4 := arg_in hx0 hxL (by omega) (j := 4) (by omega)
  have a5 := arg_in hx0 hxL (by omega) (j := 5) (by omega)
  have o0 := vp_in_nI (n := 0) (N := 1) (by decide) (by decide)
  
  unfold F_law_c16 F_L_turned F_law_c16_1402
  refine ⟨a1, a2, a3, a4, ?_⟩
  generalize xs (x4 + 1).toNatClampNeg = p1
  generalize xs (x4 + 2).toNatClampNeg = p2
  generalize xs (x4 + 3).toNatClampNeg = p3
  generalize xs (x4 + 4).toNatClampNeg = p4
  unfold F_X11_turned F_X12_turned F_X12_turned_33 F_X12_turned_40 F_X12_thrown
  rcases net_q hk p1 p2 with h | ⟨n, i, h1, h2, rfl, hi, rfl⟩
  · exact x_needNet_n hk hL h (Or.inl ⟨rfl, a1, a2, a3, a4, f_noNode_n hk hw hU (Or.inl h) (br3 (by decide) (law_fin rfl (fun e => absurd e (by decide)) ⟨rfl, k, hT, ⟨hk, hw, ⟨rfl, rfl, rfl, rfl, rfl, rfl, rfl, rfl, rfl, rfl, rfl, rfl, hp⟩, hL, hU⟩, hW, hG, hD, hO, hP⟩))⟩)
  · have hc := lvl_get hk h1 h2 hi
    have n6 : n ≤ 6 := by omega
    have hc31 := lvl_lt31 hk h1 n6 hi
    refine x_needNet_y hk hL h1 h2 hi ?_
    rcases node_q n (by omega) p3 with h | ⟨a, ha, rfl⟩
    · exact x_needNode_n h (Or.inl ⟨rfl, a1, a2, a3, a4, f_noNode_n hk hw hU (Or.inr ⟨n, i, h1, h2, rfl, hi, rfl, h⟩) (br3 (by decide) (law_fin rfl (fun e => absurd e (by decide)) ⟨rfl, k, hT, ⟨hk, hw, ⟨rfl, rfl, rfl, rfl, rfl, rfl, rfl, rfl, rfl, rfl, rfl, rfl, hp⟩, hL, hU⟩, hW, hG, hD, hO, hP⟩))⟩)
    · refine x_needNode_y ha (by omega) ?_
      rcases node_q n (by omega) p4 with h | ⟨b, hb, rfl⟩
      · exact x_needNode_n h (Or.inl ⟨rfl, a1, a2, a3, a4, f_noNode_y hk hw hU h1 h2 hi ha (br4 rfl (f_noNode_n hk hw hU (Or.inr ⟨n, i, h1, h2, rfl, hi, rfl, h⟩) (br3 (by decide) (law_fin rfl (fun e => absurd e (by decide)) ⟨rfl, k, hT, ⟨hk, hw, ⟨rfl, rfl, rfl, rfl, rfl, rfl, rfl, rfl, rfl, rfl, rfl, rfl, hp⟩, hL, hU⟩, hW, hG, hD, hO, hP⟩))))⟩)
      · refine x_needNode_y hb (by omega) ?_
        by_cases e : a = b
        · subst e
          exact br4 rfl (Or.inr ⟨rfl, a1, a2, a3, a4, f_noNode_y hk hw hU h1 h2 hi ha (br4 rfl (f_noNode_y hk hw hU h1 h2 hi ha (br4 rfl (br4 rfl (f_throws1 (br2 (by decide) (law_fin rfl (fun e => absurd e (by decide)) ⟨rfl, k, hT, ⟨hk, hw, ⟨rfl, rfl, rfl, rfl, rfl, rfl, rfl, rfl, rfl, rfl, rfl, rfl, hp⟩, hL, hU⟩, hW, hG, hD, hO, hP⟩)))))))⟩)
        · have ne : ¬ nI a = nI b := fun g => e (ni_inj (by omega) (by omega) g)
          obtain ⟨l1, l2, l3⟩ := line_at n n6 a ha b hb e
          have hx : (lvl k n).getD i 0 ^^^ 2 ^ (LN n - 2 - LN (max a b) - min a b) < 2 ^ LN n := Nat.xor_lt_two_pow hc.2.1 l3
          refine br3 ne (f_edge n6 ha hb e ?_)
          rw [ni_xor]
          refine f_leastOf n6 hx hO.1 (fun ab fo ib is' it le nn od se sl sy cl dk' sn fans near hF => ?_)
          have hO : ordOk od ∧ ordOk x_toldForms_order := ⟨hF.2.2.2.2.1, hO.2⟩
          refine f_numberOf hk hL h1 n6 (frm31 n6) ⟨o0, a1, a2, a3, a4, f_noNode_y hk hw hU h1 h2 hi ha (br4 rfl (f_noNode_y hk hw hU h1 h2 hi hb (br4 rfl (br3 ne (f_throws0 (br1 rfl (f_takes hk hU h1 h2 hi (fun dark nodes by' hR => ⟨vp_in_nI (by omega) (by decide), vp_in_nI (by omega) (by decide), vp_in_nI (by omega) (by decide), vp_in_nI (by omega) (by decide), ?_⟩))))))))⟩
          rw [nI_clamp (n := a) (by omega), nI_clamp (n := b) (by omega)]
          obtain ⟨r1, r2, r3, r4⟩ := hR
          have hR2 : RG n (dkM n ((lvl k n).getD i 0)) (tB (byM n ((lvl k n).getD i 0)) a b) dark nodes (upd (upd by' a (by' a ^^^ ((1 : Int32) <<< (nI b &&& 31)))) b ((upd by' a (by' a ^^^ ((1 : Int32) <<< (nI b &&& 31)))) b ^^^ ((1 : Int32) <<< (nI a &&& 31)))) := by
            refine ⟨r1, r2, r3, fun v hv => ?_⟩
            have p2 : ∀ x, x < n → 2 ^ x < 2 ^ 6 := fun x hx => Nat.pow_lt_pow_right (by decide) (by omega)
            have lt : ∀ x y, x < n → y < n → byM n ((lvl k n).getD i 0) x ^^^ 2 ^ y < 2 ^ 31 := fun x y _ hy => Nat.lt_trans (Nat.xor_lt_two_pow (n := 6) (byM64 n6) (p2 y hy)) (by decide)
            rw [ni_1shl (k := a) (by omega), ni_1shl (k := b) (by omega)]
            unfold tB
            by_cases c1 : v = a
            · subst c1
              rw [if_pos rfl, upd_out e, upd_in, (r4 v hv).1, ni_xor]
              exact ⟨rfl, lt v b hv hb⟩
            · rw [if_neg c1]
              by_cases c2 : v = b
              · subst c2
                rw [if_pos rfl, upd_in, upd_out c1, (r4 v hv).1, ni_xor]
                exact ⟨rfl, lt v a hv ha⟩
              · rw [if_neg c2, upd_out c2, upd_out c1]
                exact r4 v hv
          refine f_formNow n6 h1 hR2 (fun lasts sym first order _ => f_numberOf12 hk hU h1 n6 (frm31 n6) ?_)
          rw [turn_frm n6 ha hb e]
          exact law_fin rfl (fun _ => updL_in) ⟨rfl, k, hT, ⟨hk, hw, ⟨rfl, rfl, rfl, rfl, rfl, rfl, rfl, rfl, rfl, rfl, rfl, rfl, hp⟩, hL, hU⟩, hW, hG, hD, hO, hP⟩
/-! how many there are with names -/
def odJ : Nat → Int64
  | 0 => 1
  | m + 1 => if m = 0 then 1 else odJ m * (nI (m + 1)).toInt64
theorem od_step {i : Nat} (h : 1 ≤ i) : odJ i * (nI (i + 1)).toInt64 = odJ (i + 1) := by
  rw [odJ, if_neg (by omega)]
theorem f_orders {n : Nat} (h1 : 1 ≤ n) (hn : n ≤ 6) {post : Int64 → Prop} (K : post (odJ n)) : F_X1_orders (nI n) post := by
  unfold F_X1_orders
  refine ⟨n, ?_⟩
  have main : ∀ j i, 1 ≤ i → i + j = n → F_X1_orders_4 post (j + 1) (nI n) (odJ i) (nI (i + 1)) := by
    intro j
    induction j with
    | zero =>
      intro i hi hj
      have : i = n := by omega
      subst this
      unfold F_X1_orders_4
      exact br1 (nI_lt (by omega) (by omega)) K
    | succ j ih =>
      intro i hi hj
      unfold F_X1_orders_4
      refine br2 (nI_nlt (by omega) (by omega)) ?_
      rw [od_step hi, nI_1]
      exact ih (i + 1) (by omega) (by omega)
  obtain ⟨j, rfl⟩ : ∃ j, n = j + 1 := ⟨n - 1, by omega⟩
  exact main j 1 (by omega) (by omega)
def syJ (n c : Nat) : Int64 := (nI (ags n (dkM n c) (byM n c)).length).toInt64
def nmS (n : Nat) (L : List Nat) : Nat → Int64
  | 0 => 0
  | i + 1 => nmS n L i + odJ n / syJ n (L.getD i 0)
theorem sy_pos {n c : Nat} (hn : n ≤ 6) : 0 < (ags n (dkM n c) (byM n c)).length ∧ (ags n (dkM n c) (byM n c)).length < 1000 ∧ ¬ syJ n c = 0 := by
  have hA : (ags n (dkM n c) (byM n c)).length < 1000 := Nat.lt_of_le_of_lt (List.length_filter_le _ _) (lex_len n hn)
  have hA0 : 0 < (ags n (dkM n c) (byM n c)).length := List.length_pos_iff.mpr (ags_ne _ _ _)
  refine ⟨hA0, hA, fun e => ?_⟩
  unfold syJ at e
  rw [nI_l (by omega)] at e
  have := (ln_inj (b := 0) (by omega) (by decide)).mp e
  omega
theorem x_named {k : KD} (hk : KOk k) {total sz : Int32} {codes firsts : Nat → Int32} (hL : LvX k total codes firsts) {n : Nat} (h1 : 1 ≤ n) (h2 : n ≤ kSz k) {post : Int64 → Int32 → Int64 → Int32 → Int32 → Int32 → Int32 → Int32 → Int64 → Int64 → Int32 → Int32 → Int64 → Int32 → Int32 → (Nat → Int64) → (Nat → Int32) → Prop} {postx : String → Int32 → Int64 → Int32 → Int32 → Int32 → Int32 → Int32 → Int64 → Int64 → Int32 → Int32 → Int64 → Int32 → Int32 → (Nat → Int64) → (Nat → Int32) → Prop} (K : ∀ ab fo ib is' it le nn od se sl sy cl dk' sn fans near, ordOk od → post (nmS n (lvl k n) (lvl k n).length) ab fo ib is' it le nn od se sl sy cl dk' sn fans near) : ∀ j i ab fo ib is' it le nn od se sl sy cl dk' sn fans near, ordOk od → i + j = (lvl k n).length → F_X11_named_16 total codes firsts sz post postx (j + 1) (nI n) (odJ n) (nmS n (lvl k n) i) (nI i) ab fo ib is' it le nn od se sl sy cl dk' sn fans near := by
  have hsz := size_le hk
  have hln := lvl_len k n (by omega)
  intro j
  induction j with
  | zero =>
    intro i ab fo ib is' it le nn od se sl sy cl dk' sn fans near ho hi
    have : i = (lvl k n).length := by omega
    subst this
    unfold F_X11_named_16
    exact f_amount hL.2.1 h1 (by omega) (by omega) (br1 (nI_le (Nat.le_refl _) (by omega)) (K _ _ _ _ _ _ _ _ _ _ _ _ _ _ _ _ ho))
  | succ j ih =>
    intro i ab fo ib is' it le nn od se sl sy cl dk' sn fans near ho hi
    have hii : i < (lvl k n).length := by omega
    obtain ⟨c1, c2⟩ := lv_codes hL h1 (by omega) hii
    obtain ⟨s1, s2, s3⟩ := sy_pos (c := (lvl k n).getD i 0) (show n ≤ 6 by omega)
    unfold F_X11_named_16 F_X11_named_64 F_X2_symmetriesOf
    refine f_amount hL.2.1 h1 (by omega) (by omega) (br2 (nI_ge hii (by omega)) (f_codeOfI hL.2.1 h1 (by omega) (by omega) c1 c2 (f_leastOf (by omega) (lvl_get hk h1 h2 hii).2.1 ho (fun ab fo ib is' it le nn od se sl sy cl dk' sn fans near hF => ?_))))
    have hsy := hF.2.2.2.2.2.1.1
    have ho := hF.2.2.2.2.1
    have s3' : ¬ sy.toInt64 = 0 := by rw [hsy]; exact s3
    have e : odJ n / sy.toInt64 = odJ n / syJ n ((lvl k n).getD i 0) := by rw [hsy]; rfl
    refine br2 (by rw [hsy]; exact nI_nle s1 (by omega)) ⟨s3', ?_⟩
    rw [e, nI_1]
    exact ih (i + 1) _ _ _ _ _ _ _ _ _ _ _ _ _ _ _ _ ho (by omega)
theorem r_named {k : KD} (hk : KOk k) {w forms many : Nat → Int32} (hU : LvUp k 7 forms many) {n : Nat} (h1 : 1 ≤ n) (h2 : n ≤ kSz k) {th : Int32} {post : Int64 → Int32 → Int32 → Int32 → Int32 → Int32 → Int32 → (Nat → Int32) → (Nat → Int32) → (Nat → Int32) → Prop} (K : ∀ d f l nn s b o1 o2, post (nmS n (lvl k n) (lvl k n).length) d f l nn s th b o1 o2) : ∀ j i d f l nn s b o1 o2, i + j = (lvl k n).length → F_X12_named_39 forms many w post (j + 1) (nI n) (odJ n) (nmS n (lvl k n) i) (nI i) d f l nn s th b o1 o2 := by
  have hsz := size_le hk
  have hln := lvl_len k n (by omega)
  intro j
  induction j with
  | zero =>
    intro i d f l nn s b o1 o2 hi
    have : i = (lvl k n).length := by omega
    subst this
    unfold F_X12_named_39
    refine ⟨vp_in_nI (by omega) (by decide), ?_⟩
    rw [many_at hU h1 (by omega)]
    exact br1 (nI_le (Nat.le_refl _) (by omega)) (K _ _ _ _ _ _ _ _)
  | succ j ih =>
    intro i d f l nn s b o1 o2 hi
    have hii : i < (lvl k n).length := by omega
    obtain ⟨s1, s2, s3⟩ := sy_pos (c := (lvl k n).getD i 0) (show n ≤ 6 by omega)
    unfold F_X12_named_39
    refine ⟨vp_in_nI (by omega) (by decide), ?_⟩
    rw [many_at hU h1 (by omega)]
    refine br2 (nI_ge hii (by omega)) (f_takes hk hU h1 h2 hii (fun dark nodes by' hR => f_laysForm (by omega) h1 hR (fun lasts sym first order hF => ?_)))
    have hs := (hF (ags_ne _ _ _)).1
    have e : odJ n / sym.toInt64 = odJ n / syJ n ((lvl k n).getD i 0) := by rw [hs]; rfl
    refine ⟨by rw [hs]; exact s3, ?_⟩
    rw [e, nI_1]
    exact ih (i + 1) _ _ _ _ _ _ _ _ (by omega)
theorem f_named12 {k : KD} (hk : KOk k) {w forms many : Nat → Int32} (hU : LvUp k 7 forms many) {n : Nat} (h1 : 1 ≤ n) (h2 : n ≤ kSz k) {th d f l nn s : Int32} {b o1 o2 : Nat → Int32} {post : Int64 → Int32 → Int32 → Int32 → Int32 → Int32 → Int32 → (Nat → Int32) → (Nat → Int32) → (Nat → Int32) → Prop} (K : ∀ d f l nn s b o1 o2, post (nmS n (lvl k n) (lvl k n).length) d f l nn s th b o1 o2) : ∃ n15 : Nat, F_X12_named_15 forms many w post n15 (nI n) (1 : Int64) 2 d f l nn s th b o1 o2 := by
  have hsz := size_le hk
  refine ⟨n, ?_⟩
  have main : ∀ j i, 1 ≤ i → i + j = n → F_X12_named_15 forms many w post (j + 1) (nI n) (odJ i) (nI (i + 1)) d f l nn s th b o1 o2 := by
    intro j
    induction j with
    | zero =>
      intro i hi hj
      have : i = n := by omega
      subst this
      unfold F_X12_named_15
      exact br1 (nI_lt (by omega) (by omega)) ⟨(lvl k i).length + 1, r_named hk hU h1 h2 K _ 0 _ _ _ _ _ _ _ _ (by omega)⟩
    | succ j ih =>
      intro i hi hj
      unfold F_X12_named_15
      refine br2 (nI_nlt (by omega) (by omega)) ?_
      rw [od_step hi, nI_1]
      exact ih (i + 1) (by omega) (by omega)
  obtain ⟨j, rfl⟩ : ∃ j, n = j + 1 := ⟨n - 1, by omega⟩
  exact main j 1 (by omega) (by omega)
theorem lc21 (xs : Nat → Int32) (L : Nat) (hL3 : L ≤ 3072) : LC21 xs L IInv := by
  unfold LC21
  intro x4 m_begin m_dark m_end m_faultAt m_form m_hasImage m_heldDark m_lasts m_nodes m_pairs m_point m_symmetries m_taped m_thrown m_toldEdges m_toldForm m_toldNodes m_toldSymmetries m_writtenMany m_by m_decks m_draft m_firstOrder m_five m_forms m_held m_image m_many m_order m_seen m_tape m_toldOrder m_world m_written o x_hasImage x_cycleSums_edges x_cycleSums_hasDark x_cycleSums_parts x_cycleSums_ways x_decks x_draft_bannedCircles x_draft_endLines x_draft_endsJoined x_draft_fewestEdges x_draft_hasDark x_draft_least x_draft_most x_draft_mostEdges x_draft_patterns x_draft_ruleLines x_draft_size x_draft_unlike x_draft_words x_draft_patternCodes x_draft_patternNodes x_forms_allBits x_forms_firstOrder x_forms_isBeaten x_forms_isStudy x_forms_isTest x_forms_least x_forms_nodes x_forms_order x_forms_seen x_forms_stillEdges x_forms_symmetries x_forms_sketch_colours x_forms_sketch_darks x_forms_sketch_nodes x_forms_sketch_fans x_forms_sketch_near x_keptLevels_total x_keptLevels_codes x_keptLevels_firsts x_keptRules_bannedCircles x_keptRules_endLines x_keptRules_endsJoined x_keptRules_fewestEdges x_keptRules_hasDark x_keptRules_least x_keptRules_most x_keptRules_mostEdges x_keptRules_patterns x_keptRules_ruleLines x_keptRules_size x_keptRules_unlike x_keptRules_words x_keptRules_patternCodes x_keptRules_patternNodes x_keptWalkers_allParts x_keptWalkers_depths x_keptWalkers_lists x_keptWalkers_ownParts x_levels_total x_levels_codes x_levels_firsts x_match_best x_match_code x_match_one_colours x_match_one_darks x_match_one_nodes x_match_one_fans x_match_one_near x_match_two_colours x_match_two_darks x_match_two_nodes x_match_two_fans x_match_two_near x_page_length x_page_bytes x_rules_bannedCircles x_rules_endLines x_rules_endsJoined x_rules_fewestEdges x_rules_hasDark x_rules_least x_rules_most x_rules_mostEdges x_rules_patterns x_rules_ruleLines x_rules_size x_rules_unlike x_rules_words x_rules_patternCodes x_rules_patternNodes x_sketch_colours x_sketch_darks x_sketch_nodes x_sketch_fans x_sketch_near x_tape_begun x_tape_length x_tape_position x_tape_wrong x_tape_bytes x_texts_code x_texts_nodes x_toldForms_allBits x_toldForms_firstOrder x_toldForms_isBeaten x_toldForms_isStudy x_toldForms_isTest x_toldForms_least x_toldForms_nodes x_toldForms_order x_toldForms_seen x_toldForms_stillEdges x_toldForms_symmetries x_toldForms_sketch_colours x_toldForms_sketch_darks x_toldForms_sketch_nodes x_toldForms_sketch_fans x_toldForms_sketch_near x_walkers_allParts x_walkers_depths x_walkers_lists x_walkers_ownParts hx0 hxL hI
  obtain ⟨k, hT, hK, hW, hG, hD, hO, hP⟩ := hI
  obtain ⟨hk, hw, ⟨q1, q2, q3, q4, q5, q6, q7, q8, q9, q10, q11, q12, hp⟩, hL, hU⟩ := hK
  subst q1 q2 q3 q4 q5 q6 q7 q8 q9 q10 q11 q12
  have hsz := size_le hk
  have a1 := arg_in hx0 hxL (by omega) (j := 1) (by omega)
  have a2 := arg_in hx0 hxL (by omega) (j := 2) (by omega)
  have a3 := arg_in hx0 hxL (by omega) (j := 3) (by omega)
  have a4 := arg_in hx0 hxL (by omega) (j := 4) (by omega)
  have a5 := arg_in hx0 hxL (by omega) (j := 5) (by omega)
  have o0 := vp_in_nI (n := 0) (N := 1) (by decide) (by decide)
  
  unfold F_law_c21 F_L_named F_law_c21_1753
  refine ⟨a1, ?_⟩
  generalize xs (x4 + 1).toNatClampNeg = p1
  unfold F_X11_named F_X12_named F_X12_thrown
  rcases rng p1 (a := 1) (b := kSz k) (by decide) (by omega) with h | ⟨n, h1, h2, rfl⟩
  · exact x_needLevel_n h ⟨rfl, a1, f_noLevel_n hw h (br2 (by decide) (law_fin rfl (fun e => absurd e (by decide)) ⟨rfl, k, hT, ⟨hk, hw, ⟨rfl, rfl, rfl, rfl, rfl, rfl, rfl, rfl, rfl, rfl, rfl, rfl, hp⟩, hL, hU⟩, hW, hG, hD, hO, hP⟩))⟩
  · refine x_needLevel_y h1 h2 (by omega) (f_orders h1 (by omega) ⟨(lvl k n).length + 1, x_named hk hL h1 h2 (fun ab fo ib is' it le nn od se sl sy cl dk' sn fans near hod => ⟨o0, a1, f_noLevel_y hk hw h1 h2 (br1 rfl (f_named12 hk hU h1 h2 (fun d f l nn s b o1 o2 => ?_)))⟩) _ 0 _ _ _ _ _ _ _ _ _ _ _ _ _ _ _ _ hO.1 (by omega)⟩)
    have hO : ordOk od ∧ ordOk x_toldForms_order := ⟨hod, hO.2⟩
    exact law_fin rfl (fun _ => updL_in) ⟨rfl, k, hT, ⟨hk, hw, ⟨rfl, rfl, rfl, rfl, rfl, rfl, rfl, rfl, rfl, rfl, rfl, rfl, hp⟩, hL, hU⟩, hW, hG, hD, hO, hP⟩
/-! nets that keep the ends -/
def fF (P : Nat → Bool) (pl : Int32) : Nat → Nat → Nat → Int32
  | 0, _, f => if pl = -1 then nI f else -1
  | j + 1, i, f => if P i then (if nI f = pl then nI i else fF P pl j (i + 1) (f + 1)) else fF P pl j (i + 1) f
theorem fF_low {P : Nat → Bool} {pl : Int32} (h0 : pl ≠ -1) (h : ∀ f, f < 2 ^ 31 → nI f ≠ pl) : ∀ j i f, f + j < 2 ^ 31 → fF P pl j i f = -1
  | 0, i, f, _ => by rw [fF, if_neg h0]
  | j + 1, i, f, hf => by
    rw [fF]
    split
    · rw [if_neg (h f (by omega))]
      exact fF_low h0 h j _ _ (by omega)
    · exact fF_low h0 h j _ _ (by omega)
def ekP (k : KD) (i : Nat) : Bool := ekB k (kSz k) ((lvl k (kSz k)).getD i 0)
theorem x_full {k : KD} (hk : KOk k) {total : Int32} {codes firsts : Nat → Int32} (hL : LvX k total codes firsts) {pl : Int32} {post : Int32 → Int64 → Int32 → Int32 → (Nat → Int64) → (Nat → Int32) → Prop} {r : Int32} (K : ∀ kc kd kn kf kr, post r kc kd kn kf kr) : ∀ j i f kc kd kn kf kr, i + j = NL k → f ≤ i → fF (ekP k) pl j i f = r → F_X11_full_11 total codes firsts (nI (kEj k).toNat) (nI (kLo k)) (nI (kLe k)) (nI (kHi k)) (nI (kSz k)) post (j + 1) pl (nI f) (nI i) kc kd kn kf kr := by
  have hsz := size_le hk
  have hs1 := hk.1
  have hln : NL k ≤ 544 := lvl_len k (kSz k) (by omega)
  have hln2 : (lvl k (kSz k)).length ≤ 544 := hln
  intro j
  induction j with
  | zero =>
    intro i f kc kd kn kf kr hi hf hr
    have : i = (lvl k (kSz k)).length := by unfold NL at hi; omega
    subst this
    unfold F_X11_full_11 F_X11_full_111
    refine f_amount hL.2.1 hs1 (by omega) (by omega) (br1 (nI_le (Nat.le_refl _) (by omega)) ?_)
    rw [fF] at hr
    by_cases c : pl = -1
    · rw [if_pos c] at hr
      refine br4 c ?_
      rw [hr]; exact K _ _ _ _ _
    · rw [if_neg c] at hr
      refine br3 c ?_
      rw [hr]; exact K _ _ _ _ _
  | succ j ih =>
    intro i f kc kd kn kf kr hi hf hr
    have hii : i < (lvl k (kSz k)).length := by unfold NL at hi; omega
    obtain ⟨c1, c2⟩ := lv_codes hL hs1 (by omega) hii
    have hc31 := lvl_lt31 hk hs1 hsz hii
    unfold F_X11_full_11 F_X11_full_95
    refine f_amount hL.2.1 hs1 (by omega) (by omega) (br2 (nI_ge hii (by omega)) (f_codeOfI hL.2.1 hs1 (by omega) (by omega) c1 c2 (f_draw hsz hc31 (fun kc kd kn kf kr hS => ?_))))
    have hkn := hS.2.2.1
    subst hkn
    refine f_endsKept hk hs1 hsz hc31 (sk_Nr hsz hS) ?_
    rw [fF] at hr
    rw [nI_1, nI_1]
    have hP : ekP k i = ekB k (kSz k) ((lvl k (kSz k)).getD i 0) := rfl
    rw [hP] at hr
    cases e : ekB k (kSz k) ((lvl k (kSz k)).getD i 0) with
    | false =>
      rw [e, if_neg (by decide)] at hr
      exact br1 rfl (ih (i + 1) f _ _ _ _ _ (by omega) (by omega) hr)
    | true =>
      rw [e, if_pos rfl] at hr
      refine br2 (by decide) ?_
      by_cases c : nI f = pl
      · rw [if_pos c] at hr
        refine br4 c ?_
        rw [hr]; exact K _ _ _ _ _
      · rw [if_neg c] at hr
        exact br3 c (ih (i + 1) (f + 1) _ _ _ _ _ (by omega) (by omega) hr)
theorem r_full {k : KD} (hk : KOk k) {w forms many : Nat → Int32} (hw : WR k w) (hU : LvUp k 7 forms many) {pl th : Int32} {post : Int32 → Int32 → Int32 → Int32 → (Nat → Int32) → Prop} {r : Int32} (K : ∀ d nn b, post r d nn th b) : ∀ j i f d nn b, i + j = NL k → f ≤ i → fF (ekP k) pl j i f = r → F_X12_full_17 forms many w post (j + 1) pl (nI (kSz k)) (nI f) (nI i) d nn th b := by
  have hsz := size_le hk
  have hs1 := hk.1
  have hln : NL k ≤ 544 := lvl_len k (kSz k) (by omega)
  have hln2 : (lvl k (kSz k)).length ≤ 544 := hln
  intro j
  induction j with
  | zero =>
    intro i f d nn b hi hf hr
    have : i = (lvl k (kSz k)).length := by unfold NL at hi; omega
    subst this
    unfold F_X12_full_17 F_X12_full_72
    refine ⟨vp_in_nI (by omega) (by decide), ?_⟩
    rw [many_at hU hs1 (by omega)]
    refine br1 (nI_le (Nat.le_refl _) (by omega)) ?_
    rw [fF] at hr
    by_cases c : pl = -1
    · rw [if_pos c] at hr
      refine br4 c ?_
      rw [hr]; exact K _ _ _
    · rw [if_neg c] at hr
      refine br3 c ?_
      rw [hr]; exact K _ _ _
  | succ j ih =>
    intro i f d nn b hi hf hr
    have hii : i < (lvl k (kSz k)).length := by unfold NL at hi; omega
    have hc := lvl_get hk hs1 (Nat.le_refl _) hii
    unfold F_X12_full_17 F_X12_full_56
    refine ⟨vp_in_nI (by omega) (by decide), ?_⟩
    rw [many_at hU hs1 (by omega)]
    refine br2 (nI_ge hii (by omega)) (f_takes hk hU hs1 (Nat.le_refl _) hii (fun dark nodes by' hR => ?_))
    have hnn := hR.2.1
    subst hnn
    refine f_keepsEnds hk hw hs1 hc.2.2 hc.1 (RG_RN hsz hR (fun v _ => byM_lt _ _ v)) ?_
    rw [fF] at hr
    rw [nI_1, nI_1]
    have hP : ekP k i = ekB k (kSz k) ((lvl k (kSz k)).getD i 0) := rfl
    rw [hP] at hr
    cases e : ekB k (kSz k) ((lvl k (kSz k)).getD i 0) with
    | false =>
      rw [e, if_neg (by decide)] at hr
      exact br4 rfl (ih (i + 1) f _ _ _ (by omega) (by omega) hr)
    | true =>
      rw [e, if_pos rfl] at hr
      refine br3 (by decide) ?_
      by_cases c : nI f = pl
      · rw [if_pos c] at hr
        refine br4 c ?_
        rw [hr]; exact K _ _ _
      · rw [if_neg c] at hr
        exact br3 c (ih (i + 1) (f + 1) _ _ _ (by omega) (by omega) hr)
theorem lc23 (xs : Nat → Int32) (L : Nat) (hL3 : L ≤ 3072) : LC23 xs L IInv := by
  unfold LC23
  intro x4 m_begin m_dark m_end m_faultAt m_form m_hasImage m_heldDark m_lasts m_nodes m_pairs m_point m_symmetries m_taped m_thrown m_toldEdges m_toldForm m_toldNodes m_toldSymmetries m_writtenMany m_by m_decks m_draft m_firstOrder m_five m_forms m_held m_image m_many m_order m_seen m_tape m_toldOrder m_world m_written o x_hasImage x_cycleSums_edges x_cycleSums_hasDark x_cycleSums_parts x_cycleSums_ways x_decks x_draft_bannedCircles x_draft_endLines x_draft_endsJoined x_draft_fewestEdges x_draft_hasDark x_draft_least x_draft_most x_draft_mostEdges x_draft_patterns x_draft_ruleLines x_draft_size x_draft_unlike x_draft_words x_draft_patternCodes x_draft_patternNodes x_forms_allBits x_forms_firstOrder x_forms_isBeaten x_forms_isStudy x_forms_isTest x_forms_least x_forms_nodes x_forms_order x_forms_seen x_forms_stillEdges x_forms_symmetries x_forms_sketch_colours x_forms_sketch_darks x_forms_sketch_nodes x_forms_sketch_fans x_forms_sketch_near x_keptLevels_total x_keptLevels_codes x_keptLevels_firsts x_keptRules_bannedCircles x_keptRules_endLines x_keptRules_endsJoined x_keptRules_fewestEdges x_keptRules_hasDark x_keptRules_least x_keptRules_most x_keptRules_mostEdges x_keptRules_patterns x_keptRules_ruleLines x_keptRules_size x_keptRules_unlike x_keptRules_words x_keptRules_patternCodes x_keptRules_patternNodes x_keptWalkers_allParts x_keptWalkers_depths x_keptWalkers_lists x_keptWalkers_ownParts x_levels_total x_levels_codes x_levels_firsts x_match_best x_match_code x_match_one_colours x_match_one_darks x_match_one_nodes x_match_one_fans x_match_one_near x_match_two_colours x_match_two_darks x_match_two_nodes x_match_two_fans x_match_two_near x_page_length x_page_bytes x_rules_bannedCircles x_rules_endLines x_rules_endsJoined x_rules_fewestEdges x_rules_hasDark x_rules_least x_rules_most x_rules_mostEdges x_rules_patterns x_rules_ruleLines x_rules_size x_rules_unlike x_rules_words x_rules_patternCodes x_rules_patternNodes x_sketch_colours x_sketch_darks x_sketch_nodes x_sketch_fans x_sketch_near x_tape_begun x_tape_length x_tape_position x_tape_wrong x_tape_bytes x_texts_code x_texts_nodes x_toldForms_allBits x_toldForms_firstOrder x_toldForms_isBeaten x_toldForms_isStudy x_toldForms_isTest x_toldForms_least x_toldForms_nodes x_toldForms_order x_toldForms_seen x_toldForms_stillEdges x_toldForms_symmetries x_toldForms_sketch_colours x_toldForms_sketch_darks x_toldForms_sketch_nodes x_toldForms_sketch_fans x_toldForms_sketch_near x_walkers_allParts x_walkers_depths x_walkers_lists x_walkers_ownParts hx0 hxL hI
  obtain ⟨k, hT, hK, hW, hG, hD, hO, hP⟩ := hI
  obtain ⟨hk, hw, ⟨q1, q2, q3, q4, q5, q6, q7, q8, q9, q10, q11, q12, hp⟩, hL, hU⟩ := hK
  subst q1 q2 q3 q4 q5 q6 q7 q8 q9 q10 q11 q12
  have hsz := size_le hk
  have a1 := arg_in hx0 hxL (by omega) (j := 1) (by omega)
  have a2 := arg_in hx0 hxL (by omega) (j := 2) (by omega)
  have a3 := arg_in hx0 hxL (by omega) (j := 3) (by omega)
  have a4 := arg_in hx0 hxL (by omega) (j := 4) (by omega)
  have a5 := arg_in hx0 hxL (by omega) (j := 5) (by omega)
  have o0 := vp_in_nI (n := 0) (N := 1) (by decide) (by decide)
  
  unfold F_law_c23
  refine ⟨a1, ?_⟩
  generalize xs (x4 + 1).toNatClampNeg = p1
  unfold F_X11_full F_X12_full
  have hln : NL k ≤ 544 := lvl_len k (kSz k) (by omega)
  have o30 := vp_in_nI (n := 0) (N := 30) (by decide) (by decide)
  by_cases g : (-1 : Int32) ≤ p1
  · refine br1 g ⟨NL k + 1, x_full hk hL (fun kc kd kn kf kr => ⟨a1, o30, NL k + 1, ?_⟩) (NL k) 0 0 _ _ _ _ _ (by omega) (Nat.le_refl _) rfl⟩
    rw [w_size hw]
    exact r_full hk hw hU (fun d nn b => ⟨fun _ => ⟨rfl, k, hT, ⟨hk, hw, ⟨rfl, rfl, rfl, rfl, rfl, rfl, rfl, rfl, rfl, rfl, rfl, rfl, hp⟩, hL, hU⟩, hW, hG, hD, hO, hP⟩, fun e => absurd rfl e⟩) (NL k) 0 0 _ _ _ (by omega) (Nat.le_refl _) rfl
  · refine br2 g ⟨a1, o30, NL k + 1, ?_⟩
    rw [w_size hw]
    have h0 : p1 ≠ -1 := fun e => g (by rw [e]; exact Int32.le_refl _)
    have hlow : ∀ f, f < 2 ^ 31 → nI f ≠ p1 := fun f hf e => by
      apply g
      rw [← e, Int32.le_iff_toInt_le, nI_toInt hf]
      have : (-1 : Int32).toInt = -1 := by decide
      omega
    exact r_full hk hw hU (fun d nn b => ⟨fun _ => ⟨rfl, k, hT, ⟨hk, hw, ⟨rfl, rfl, rfl, rfl, rfl, rfl, rfl, rfl, rfl, rfl, rfl, rfl, hp⟩, hL, hU⟩, hW, hG, hD, hO, hP⟩, fun e => absurd rfl e⟩) (NL k) 0 0 _ _ _ (by omega) (Nat.le_refl _) (fF_low h0 hlow _ _ _ (by omega))
