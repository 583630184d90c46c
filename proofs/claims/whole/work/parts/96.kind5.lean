/-! a kind, as both sides hold it -/
theorem bc_ok : ∀ fr, fr < 128 → fr % 8 = 0 → ∀ ev fo, bcR fr ev fo < 128 ∧ bcR fr ev fo % 8 = 0 := by decide +kernel
theorem kd_KOk {n : Nat} {dk : Bool} {mo : Option Nat} {fr : Nat} {ev : Bool} {fo : Bool} {ul : Bool} {ps : List (Nat × Nat)} {ej : Bool} {ed : Option (Nat × Nat)} {le : Option Nat} {rl : Nat} {el : Nat} (n1 : 1 ≤ n) (n2 : n ≤ (if dk then 5 else 6)) (hB : RB mo fr ps ed le) (hl : rl + el ≤ 14) : KOk (n, dk, mo.getD 5, bcR fr ev fo, ul, ps, ej, feR ed, meR ed, le.getD 0, rl, el) := by
  obtain ⟨⟨h1, h2, h3⟩, ⟨h4, h5⟩, h6, h7⟩ := hB
  refine ⟨n1, n2, h1, bc_ok fr h2 h3 ev fo, h4, h5, ?_, ?_, h7, show rl ≤ 14 by omega, show el ≤ 14 by omega⟩
  · cases ed with
    | none => exact (by decide : 0 ≤ 15)
    | some x => exact (h6 x rfl).1
  · cases ed with
    | none => exact Nat.le_refl 15
    | some x => exact (h6 x rfl).2
theorem kd_WR {n : Nat} {dk : Bool} {mo : Option Nat} {fr : Nat} {ev : Bool} {fo : Bool} {ul : Bool} {ps : List (Nat × Nat)} {ej : Bool} {ed : Option (Nat × Nat)} {le : Option Nat} {rl : Nat} {el : Nat} {w : Nat → Int32} (hB : RB mo fr ps ed le) (h : WK n dk mo fr ev fo ul ps ej ed le rl el w) : WR (n, dk, mo.getD 5, bcR fr ev fo, ul, ps, ej, feR ed, meR ed, le.getD 0, rl, el) w := by
  obtain ⟨hb, h0, h1, h2, h3, h4, h5, h6, h7, h12, h13, h15, h16, h17, hP, hE, hZ⟩ := h
  refine ⟨h0, h1, ?_, ⟨fr, ev, fo, hB.1.2.1, h3, h4, h5, rfl⟩, h6, h7, hP, h12, ?_, ?_, h16, h17⟩
  · cases mo with
    | none => exact Or.inl ⟨h2, rfl⟩
    | some v => exact Or.inr h2
  · cases ed with
    | none => exact Or.inl ⟨h13, rfl, rfl⟩
    | some x => exact Or.inr ⟨h13, hE x rfl⟩
  · cases le with
    | none => exact Or.inl ⟨h15, rfl⟩
    | some v => exact Or.inr h15
theorem wk_WkR {k : KD} {n : Nat} {b : Bool} {mo : Option Nat} {fr : Nat} {ev : Bool} {fo : Bool} {ul : Bool} {ps : List (Nat × Nat)} {ej : Bool} {ed : Option (Nat × Nat)} {le : Option Nat} {rl : Nat} {el : Nat} {w w2 : Nat → Int32} (h : WK n b mo fr ev fo ul ps ej ed le rl el w) (y2 : ∀ i, i < 30 → w2 i = w i) {dep al own lst : Nat → Int32} (y3 : ∀ i, i < 3 → dep i = 0 ∧ al i = 0 ∧ own i = 0 ∧ lst i = 0) : WkR k w2 dep al own lst := by
  obtain ⟨hb, h0, h1, h2, h3, h4, h5, h6, h7, h12, h13, h15, h16, h17, hP, hE, hZ⟩ := h
  intro v hv
  obtain ⟨a, b, c, d⟩ := y3 v hv
  have z : ∀ i, 18 ≤ i → i < 30 → w2 i = nI 0 := fun i g1 g2 => (y2 i g2).trans (hZ i g1 g2)
  exact ⟨0, 0, 0, 0, z _ (by omega) (by omega), z _ (by omega) (by omega), z _ (by omega) (by omega), z _ (by omega) (by omega), a, b, c, d, Or.inl ⟨rfl, rfl⟩⟩
theorem f_copyD {b1 b2 b3 : Bool} {rbc rel rfe rle rmo rme rpa rrl rsz pw : Int32} {rpc rpn : Nat → Int32} {t1 t2 t3 t4 t5 t6 t7 t8 t9 t10 t11 t12 t13 : Int32} {tc tn : Nat → Int32} {post : Int32 → Int32 → Int32 → Int32 → Int32 → Int32 → Int32 → Int32 → Int32 → Int32 → Int32 → Int32 → Int32 → (Nat → Int32) → (Nat → Int32) → Prop} (K : ∀ c n, (∀ i, i < 2 → c i = rpc i ∧ n i = rpn i) → post rbc rel (nI b3.toNat) rfe (nI b1.toNat) rle rmo rme rpa rrl rsz (nI b2.toNat) pw c n) : F_X6_copyFrom rbc rel (nI b3.toNat) rfe (nI b1.toNat) rle rmo rme rpa rrl rsz (nI b2.toNat) pw rpc rpn t1 t2 t3 t4 t5 t6 t7 t8 t9 t10 t11 t12 t13 tc tn post := by
  unfold F_X6_copyFrom
  exact ⟨bb1 _, bb1 _, by decide, by decide, bb1 _, K _ _ (fun i hi => ⟨cpy_at hi, cpy_at hi⟩)⟩
theorem f_clearW {a d l o : Nat → Int32} {post : (Nat → Int32) → (Nat → Int32) → (Nat → Int32) → (Nat → Int32) → Prop} (K : ∀ a d l o, (∀ i, i < 3 → d i = 0 ∧ a i = 0 ∧ o i = 0 ∧ l i = 0) → post a d l o) : F_X10_clear a d l o post := by
  unfold F_X10_clear
  refine ⟨4, ?_⟩
  have main : ∀ j i a d l o, i + j = 3 → (∀ x, x < i → d x = 0 ∧ a x = 0 ∧ o x = 0 ∧ l x = 0) → F_X10_clear_2 post (j + 1) (nI i) a d l o := by
    intro j
    induction j with
    | zero =>
      intro i a d l o hi h
      unfold F_X10_clear_2
      exact br1 (nI_le (a := 3) (by omega) (by omega)) (K a d l o (fun x hx => h x (by omega)))
    | succ j ih =>
      intro i a d l o hi h
      have hi3 : i < 3 := by omega
      unfold F_X10_clear_2 F_X10_give
      refine br2 (nI_ge (b := 3) hi3 (by decide)) (f_put hi3 (f_put hi3 (f_put hi3 (f_put hi3 ?_))))
      rw [nI_1]
      refine ih (i + 1) _ _ _ _ (by omega) (fun x hx => ?_)
      by_cases e : x = i
      · subst e; exact ⟨upd_in, upd_in, upd_in, upd_in⟩
      · rw [upd_out e, upd_out e, upd_out e, upd_out e]; exact h x (by omega)
  exact main 3 0 a d l o rfl (fun x hx => absurd hx (Nat.not_lt_zero _))
theorem frm_pat {n P c : Nat} (hc : CodeIs n 0 P c) : frm n (dkM n c) (byM n c) = frm n 0 (pB n P) := by
  refine (frm_congr (fun l hl => cod_congr (fun v hv => ?_) (fun v hv u hu => ?_))).1
  · rw [dkM_tb, hc.2.1 v (lex_mem hl v hv), Nat.zero_testBit, Bool.and_false]
  · have hv := lex_mem hl v hv
    have hu := lex_mem hl u hu
    rw [byM_tb, pB_tb, decide_eq_true hu, Bool.true_and, Bool.true_and]
    by_cases e : u = v
    · subst e
      rw [decide_eq_false (by omega), Bool.false_and]
      exact egb_self _ _ _
    · rw [decide_eq_true e, Bool.true_and, hc.2.2 v u hv hu (fun g => e g.symm)]
      unfold ixP
      rw [Nat.max_comm, Nat.min_comm]
theorem f_formPat {ps : List (Nat × Nat)} {pc pn : Nat → Int32} (hB : PsB ps) (hX : PsX ps pc pn) {ab : Int32} {fo : Int64} {ib is' it le nn : Int32} {od se : Int64} {sl sy : Int32} {cl : Int64} {dk' sn : Int32} {fans : Nat → Int64} {near : Nat → Int32} (ho : ordOk od) {post : Int32 → Int64 → Int32 → Int32 → Int32 → Int32 → Int32 → Int64 → Int64 → Int32 → Int32 → Int64 → Int32 → Int32 → (Nat → Int64) → (Nat → Int32) → (Nat → Int32) → Prop} (K : ∀ ab fo ib is' it le nn od se sl sy cl dk' sn fans near pc', ordOk od → (∀ i, i < ps.length → pc' i = nI (frm (ps.getD i (0, 0)).1 0 (pB (ps.getD i (0, 0)).1 (ps.getD i (0, 0)).2))) → post ab fo ib is' it le nn od se sl sy cl dk' sn fans near pc') : F_X6_formPatterns (nI ps.length) pn ab fo ib is' it le nn od se sl sy cl dk' sn fans near pc post := by
  have hl := hB.1
  unfold F_X6_formPatterns
  refine ⟨3, ?_⟩
  have main : ∀ j i ab fo ib is' it le nn od se sl sy cl dk' sn fans near pc', i + j = 2 → ordOk od → (∀ x, x < i → x < ps.length → pc' x = nI (frm (ps.getD x (0, 0)).1 0 (pB (ps.getD x (0, 0)).1 (ps.getD x (0, 0)).2))) → (∀ x, i ≤ x → pc' x = pc x) → F_X6_formPatterns_2 (nI ps.length) pn post (j + 1) (nI i) ab fo ib is' it le nn od se sl sy cl dk' sn fans near pc' := by
    intro j
    induction j with
    | zero =>
      intro i ab fo ib is' it le nn od se sl sy cl dk' sn fans near pc' hi ho h1 h2
      unfold F_X6_formPatterns_2 F_X6_formPatterns_56
      exact br1 (nI_le (by omega) (by omega)) (K ab fo ib is' it le nn od se sl sy cl dk' sn fans near pc' ho (fun x hx => h1 x (by omega) hx))
    | succ j ih =>
      intro i ab fo ib is' it le nn od se sl sy cl dk' sn fans near pc' hi ho h1 h2
      unfold F_X6_formPatterns_2 F_X6_formPatterns_56
      by_cases c : ps.length ≤ i
      · exact br1 (nI_le c (by omega)) (K ab fo ib is' it le nn od se sl sy cl dk' sn fans near pc' ho (fun x hx => h1 x (by omega) hx))
      · obtain ⟨cc, e1, e2, hc⟩ := hX i (by omega)
        have hm : ps.getD i (0, 0) ∈ ps := by
          rw [List.getD_eq_getElem?_getD, List.getElem?_eq_getElem (by omega)]
          exact List.getElem_mem _
        obtain ⟨b1, b2, b3⟩ := hB.2 _ hm
        have hf := frm_pat hc
        generalize ex : ps.getD i (0, 0) = x at *
        refine br2 (nI_ge (by omega) (by omega)) (br2 (nI_ge (b := 2) (by omega) (by decide)) (br2 (nI_ge (b := 2) (by omega) (by decide)) ⟨vp_in_nI (by omega) (by decide), vp_in_nI (by omega) (by decide), ?_⟩))
        rw [nI_clamp (by omega), e2, h2 i (Nat.le_refl _), e1, nI_1]
        refine f_leastOf (by omega) hc.1 ho (fun ab fo ib is' it le nn od se sl sy cl dk' sn fans near hF => ⟨vp_in_nI (by omega) (by decide), ?_⟩)
        refine ih (i + 1) ab fo ib is' it le nn od se sl sy cl dk' sn fans near _ (by omega) hF.2.2.2.2.1 (fun y hy hy2 => ?_) (fun y hy => ?_)
        · by_cases e : y = i
          · subst e
            rw [upd_in, hf, ex]
          · rw [upd_out e]
            exact h1 y (by omega) hy2
        · rw [upd_out (by omega)]
          exact h2 y (by omega)
  exact main 2 0 ab fo ib is' it le nn od se sl sy cl dk' sn fans near pc rfl ho (fun x hx => absurd hx (Nat.not_lt_zero _)) (fun x _ => rfl)
theorem lc2 (xs : Nat → Int32) (L : Nat) (hL3 : L ≤ 3072) : LC2 xs L IInv := by
  unfold LC2
  intro x4 m_begin m_dark m_end m_faultAt m_form m_hasImage m_heldDark m_lasts m_nodes m_pairs m_point m_symmetries m_taped m_thrown m_toldEdges m_toldForm m_toldNodes m_toldSymmetries m_writtenMany m_by m_decks m_draft m_firstOrder m_five m_forms m_held m_image m_many m_order m_seen m_tape m_toldOrder m_world m_written o x_hasImage x_cycleSums_edges x_cycleSums_hasDark x_cycleSums_parts x_cycleSums_ways x_decks x_draft_bannedCircles x_draft_endLines x_draft_endsJoined x_draft_fewestEdges x_draft_hasDark x_draft_least x_draft_most x_draft_mostEdges x_draft_patterns x_draft_ruleLines x_draft_size x_draft_unlike x_draft_words x_draft_patternCodes x_draft_patternNodes x_forms_allBits x_forms_firstOrder x_forms_isBeaten x_forms_isStudy x_forms_isTest x_forms_least x_forms_nodes x_forms_order x_forms_seen x_forms_stillEdges x_forms_symmetries x_forms_sketch_colours x_forms_sketch_darks x_forms_sketch_nodes x_forms_sketch_fans x_forms_sketch_near x_keptLevels_total x_keptLevels_codes x_keptLevels_firsts x_keptRules_bannedCircles x_keptRules_endLines x_keptRules_endsJoined x_keptRules_fewestEdges x_keptRules_hasDark x_keptRules_least x_keptRules_most x_keptRules_mostEdges x_keptRules_patterns x_keptRules_ruleLines x_keptRules_size x_keptRules_unlike x_keptRules_words x_keptRules_patternCodes x_keptRules_patternNodes x_keptWalkers_allParts x_keptWalkers_depths x_keptWalkers_lists x_keptWalkers_ownParts x_levels_total x_levels_codes x_levels_firsts x_match_best x_match_code x_match_one_colours x_match_one_darks x_match_one_nodes x_match_one_fans x_match_one_near x_match_two_colours x_match_two_darks x_match_two_nodes x_match_two_fans x_match_two_near x_page_length x_page_bytes x_rules_bannedCircles x_rules_endLines x_rules_endsJoined x_rules_fewestEdges x_rules_hasDark x_rules_least x_rules_most x_rules_mostEdges x_rules_patterns x_rules_ruleLines x_rules_size x_rules_unlike x_rules_words x_rules_patternCodes x_rules_patternNodes x_sketch_colours x_sketch_darks x_sketch_nodes x_sketch_fans x_sketch_near x_tape_begun x_tape_length x_tape_position x_tape_wrong x_tape_bytes x_texts_code x_texts_nodes x_toldForms_allBits x_toldForms_firstOrder x_toldForms_isBeaten x_toldForms_isStudy x_toldForms_isTest x_toldForms_least x_toldForms_nodes x_toldForms_order x_toldForms_seen x_toldForms_stillEdges x_toldForms_symmetries x_toldForms_sketch_colours x_toldForms_sketch_darks x_toldForms_sketch_nodes x_toldForms_sketch_fans x_toldForms_sketch_near x_walkers_allParts x_walkers_depths x_walkers_lists x_walkers_ownParts hx0 hxL hI
  obtain ⟨k, hT, hK, hW, hG, hD, hO, hP⟩ := hI
  obtain ⟨hk, hw, ⟨q1, q2, q3, q4, q5, q6, q7, q8, q9, q10, q11, q12, hp⟩, hL, hU⟩ := hK
  subst q1 q2 q3 q4 q5 q6 q7 q8 q9 q10 q11 q12
  have hsz := size_le hk
  have a1 := arg_in hx0 hxL (by omega) (j := 1) (by omega)
  have a2 := arg_in hx0 hxL (by omega) (j := 2) (by omega)
  have a3 := arg_in hx0 hxL (by omega) (j := 3) (by omega)
  have a4 := arg_in hx0 hxL (by omega) (j := 4) (by omega)
  have a5 := arg_in hx0 hxL (by omega) (j := 5) (by omega)
  have o0 := vp_in_nI (n := 0) (N := 1) (by decide) (by decide)
  
  unfold F_law_c2 F_L_kind F_law_c2_339
  unfold F_X11_kind F_X8_begin F_X8_finish F_X8_finish_13 F_X12_kind F_X12_beginsReading F_X12_kind_34 F_X12_kind_47 F_X12_thrown
  obtain ⟨Bt, N, t1, t2, hX, hM⟩ := tape_get hT
  subst t1 t2
  have hf1 := hL.2.1 1 (by decide) (by decide)
  refine x_readKind hX (fun n dk mo fr ev fo ul ps ej ed le rl el hr n1 n2 hB hl bg pos pc pn hps => ?_) (fun e hr pos a0 a1 a2 a3 a4 a5 a6 a7 a8 a9 a10 a11 a12 pc pn => ?_)
  · have hk2 : KOk (n, dk, mo.getD 5, bcR fr ev fo, ul, ps, ej, feR ed, meR ed, le.getD 0, rl, el) := kd_KOk n1 n2 hB hl
    have n6 : n ≤ 6 := size_le hk2
    have hT2 := tape_done (-1) m_tape x_tape_bytes
    refine br2 (by decide) (br3 (by decide) (f_copyD (fun c nn hc => ?_)))
    have hps2 : PsX ps c nn := fun i hi => by
      have hl2 := hB.2.1.1
      rw [(hc i (by omega)).1, (hc i (by omega)).2]
      exact hps i hi
    refine f_formPat hB.2.1 hps2 hO.1 (fun ab fo' ib is' it le' nn' od se sl sy cl dk' sn fans near pc' ho hpc => ?_)
    have hp2 : ∀ i, i < ps.length → pc' i = nI (frm (ps.getD i (0, 0)).1 0 (pB (ps.getD i (0, 0)).1 (ps.getD i (0, 0)).2)) ∧ nn i = nI (ps.getD i (0, 0)).1 := fun i hi => ⟨hpc i hi, by obtain ⟨_, _, g, _⟩ := hps2 i hi; exact g⟩
    refine f_fill hk2 ⟨rfl, rfl, rfl, rfl, rfl, rfl, hp2⟩ ho hf1 (fun kc kd kn kf kr ab fo' ib is' it le' nn' od se sl sy cl dk' sn fans near total codes firsts ho2 hL2 => ?_)
    refine f_clearW (fun a d l o' hz => f_amount hL2.2.1 n1 (by omega) (Nat.le_refl 7) ⟨o0, ?_⟩)
    refine f_isFresh (fun w hw2 => m_readKind hM hw2 (fun n' dk2 mo' fr' ev' fo' ul' ps' ej' ed' le' rl' el' hr' bg pr pos w' hK' => ?_) (fun e hr' => ?_))
    · rw [hr] at hr'
      have hr' := Except.ok.inj hr'
      simp only [Prod.mk.injEq] at hr'
      obtain ⟨e1, e2, e3, e4, e5, e6, e7, e8, e9, e10, e11, e12, e13⟩ := hr'
      subst e1 e2 e3 e4 e5 e6 e7 e8 e9 e10 e11 e12 e13
      refine br2 (by decide) (br3 (by decide) (f_throws0 (br1 rfl (f_copies (fun im h4 => f_laysLevels hk2 (WR_congr hk2 h4 (kd_WR hB hK')) (fun dark nodes by' forms many ord seen hU2 => ?_))))))
      have hi0 : im (0 : Int32).toNatClampNeg = nI n := (h4 0 (by decide)).trans hK'.2.1
      rw [hi0, nI_clamp (by omega), (hU2 n n1 (by omega)).1]
      exact ⟨vp_in_nI (by decide) (by decide), vp_in_nI (by omega) (by decide), law_fin rfl (fun _ => updL_in) ⟨rfl, (n, dk, mo.getD 5, bcR fr ev fo, ul, ps, ej, feR ed, meR ed, le.getD 0, rl, el), hT2, ⟨hk2, WR_congr hk2 h4 (kd_WR hB hK'), ⟨rfl, rfl, rfl, rfl, rfl, rfl, rfl, rfl, rfl, rfl, rfl, rfl, hp2⟩, hL2, hU2⟩, wk_WkR hK' h4 hz, hG, hD, ⟨ho2, hO.2⟩, hP⟩⟩
    · rw [hr] at hr'
      simp at hr'
  · have hT2 := tape_done (nI e) m_tape x_tape_bytes
    refine br1 rfl (br4 rfl ⟨rfl, ?_⟩)
    refine f_isFresh (fun w hw2 => m_readKind hM hw2 (fun n' dk2 mo' fr' ev' fo' ul' ps' ej' ed' le' rl' el' hr' bg pr pos w' hK' => ?_) (fun e' hr' pr pos w' => ?_))
    · rw [hr] at hr'
      simp at hr'
    · rw [hr] at hr'
      have ee := Except.error.inj hr'
      subst ee
      exact br1 rfl (br4 rfl (f_throws1 (br2 (by decide) (law_fin rfl (fun e => absurd e (by decide)) ⟨rfl, k, hT2, ⟨hk, hw, ⟨rfl, rfl, rfl, rfl, rfl, rfl, rfl, rfl, rfl, rfl, rfl, rfl, hp⟩, hL, hU⟩, hW, hG, hD, hO, hP⟩))))
