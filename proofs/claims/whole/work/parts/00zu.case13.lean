theorem sn_lk {n p : Nat} (hn : n ≤ 6) (hp : p < n) : ∀ (acc : List (List Nat)) (s t : Nat), (∀ l ∈ acc, ∀ i, i < n → l.getD i 0 < 6) → s < 2 ^ 36 → (∀ v, v < 6 → s.testBit (6 * p + v) = t.testBit v) → acc.foldl (fun s l => seenF l s n) s < 2 ^ 36 ∧ ∀ v, v < 6 → (acc.foldl (fun s l => seenF l s n) s).testBit (6 * p + v) = (acc.foldl (fun s l => s ||| 2 ^ l.getD p 0) t).testBit v
  | [], s, t, _, hs, h => ⟨hs, h⟩
  | l :: acc, s, t, hl, hs, h => by
    have h1 := hl l (by simp)
    refine sn_lk hn hp acc _ _ (fun l' h' => hl l' (by simp [h'])) (seenF_lt hs _ (by omega) h1) (fun v hv => ?_)
    rw [seenF_tb _ h1 p v hv, h v hv, Nat.testBit_or, Nat.testBit_two_pow, decide_eq_true hp, Bool.true_and]
theorem lk_lt {p : Nat} : ∀ (acc : List (List Nat)) (s : Nat), (∀ l ∈ acc, l.getD p 0 < 6) → s < 64 → acc.foldl (fun s l => s ||| 2 ^ l.getD p 0) s < 64
  | [], s, _, hs => hs
  | l :: acc, s, hl, hs => lk_lt acc _ (fun l' h' => hl l' (by simp [h'])) (Nat.or_lt_two_pow (n := 6) hs (Nat.pow_lt_pow_right (by decide) (hl l (by simp))))
theorem lk_has {p v : Nat} : ∀ (acc : List (List Nat)) (s : Nat), s.testBit v = true ∨ (∃ l ∈ acc, l.getD p 0 = v) → (acc.foldl (fun s l => s ||| 2 ^ l.getD p 0) s).testBit v = true
  | [], s, h => by
    rcases h with h | ⟨l, hl, _⟩
    · exact h
    · simp at hl
  | l :: acc, s, h => by
    refine lk_has acc _ ?_
    rcases h with h | ⟨l', hl, e⟩
    · exact Or.inl (by rw [Nat.testBit_or, h]; rfl)
    · rcases List.mem_cons.mp hl with rfl | hl
      · exact Or.inl (by rw [Nat.testBit_or, e, Nat.testBit_two_pow_self, Bool.or_true])
      · exact Or.inr ⟨l', hl, e⟩
theorem sn_eq {n p : Nat} (hn : n ≤ 6) (hp : p < n) {acc : List (List Nat)} (hl : ∀ l ∈ acc, ∀ i, i < n → l.getD i 0 < 6) : snA n acc < 2 ^ 36 ∧ snA n acc / 2 ^ (6 * p) % 64 = lkF acc p := by
  obtain ⟨h1, h2⟩ := sn_lk hn hp acc 0 0 hl (by decide) (fun v _ => by simp)
  refine ⟨h1, ?_⟩
  have hk : lkF acc p < 2 ^ 6 := lk_lt acc 0 (fun l h => hl l h p hp) (by decide)
  refine Nat.eq_of_testBit_eq (fun v => ?_)
  rw [show (64 : Nat) = 2 ^ 6 by rfl, Nat.testBit_mod_two_pow]
  by_cases hv : v < 6
  · rw [decide_eq_true hv, Bool.true_and, Nat.testBit_div_two_pow, Nat.add_comm v]
    exact h2 v hv
  · rw [decide_eq_false hv, Bool.false_and]
    exact (Nat.testBit_lt_two_pow (Nat.lt_of_lt_of_le hk (Nat.pow_le_pow_right (by decide) (by omega)))).symm
theorem ls_eq {n sn v : Nat} {acc : List (List Nat)} (h : ∀ p, p < n → sn / 2 ^ (6 * p) % 64 = lkF acc p) : ∀ j p, p + j = n → lsF n sn v j p = oI (lsO acc v j p)
  | 0, p, _ => rfl
  | j + 1, p, hp => by
    rw [lsF, lsO, h p (by omega)]
    split
    · rfl
    · exact ls_eq h j (p + 1) (by omega)
theorem chO_A {n c : Nat} {dk : Bool} (h1 : 1 ≤ n) (h2 : n ≤ (if dk then 5 else 6)) (hc : c ∈ CT n dk) : chO2 n c (ags n (dkM n c) (byM n c)) = true := by
  have hn : n ≤ 6 := by cases dk <;> simp at h2 <;> omega
  have h := (CT_chk h1 h2 hc).2
  have f := (CT_facts h1 h2 hc).2.2.2.2.2.2.2.2.1
  unfold chO at h
  rw [ags_agC hn, ← frm_mnC hn, f]
  exact h
theorem orb_facts {n c : Nat} {dk : Bool} (h1 : 1 ≤ n) (h2 : n ≤ (if dk then 5 else 6)) (hc : c ∈ CT n dk) {v : Nat} (hv : v < n) : lsO (ags n (dkM n c) (byM n c)) v n 0 = lwF (lkF (ags n (dkM n c) (byM n c)) (posF ((ags n (dkM n c) (byM n c)).headD []) v)) 31 0 := by
  have h := chO_A h1 h2 hc
  unfold chO2 at h
  simp only [Bool.and_eq_true, List.all_eq_true, beq_iff_eq] at h
  exact h.1.1 v (List.mem_range.mpr hv)
theorem lw_none {x : Nat} : ∀ j i, lwF x j i = none → ∀ t, i ≤ t → t < i + j → x.testBit t = false
  | 0, i, _, t, a, b => by omega
  | j + 1, i, h, t, a, b => by
    rw [lwF] at h
    split at h
    · simp at h
    · rename_i g
      by_cases e : t = i
      · subst e; simpa using g
      · exact lw_none j (i + 1) h t (by omega) (by omega)
theorem orb_some {n D v : Nat} {B : Nat → Nat} (hn : n ≤ 6) (hv : v < n) : lkF (ags n D B) (posF ((ags n D B).headD []) v) < 64 ∧ ∃ r, lwF (lkF (ags n D B) (posF ((ags n D B).headD []) v)) 31 0 = some r := by
  have hm : (ags n D B).headD [] ∈ ags n D B := by
    cases e : ags n D B with
    | nil => exact absurd e (ags_ne _ _ _)
    | cons a b => simp
  obtain ⟨p1, p2⟩ := find_at hn (List.mem_filter.mp hm).1 hv
  have hp : posF ((ags n D B).headD []) v = ((ags n D B).headD []).idxOf v := rfl
  rw [hp]
  refine ⟨lk_lt _ 0 (fun l h => ags_get hn l h _ p1) (by decide), ?_⟩
  cases e : lwF (lkF (ags n D B) (((ags n D B).headD []).idxOf v)) 31 0 with
  | some r => exact ⟨r, rfl⟩
  | none =>
    have h1 := lw_none 31 0 e v (by omega) (by omega)
    have h2 : (lkF (ags n D B) (((ags n D B).headD []).idxOf v)).testBit v = true := lk_has _ 0 (Or.inr ⟨_, hm, p2⟩)
    rw [h1] at h2
    simp at h2
theorem orb_28 {forms many w : Nat → Int32} {M r : Nat} (hM : M < 64) {d f la nn s th : Int32} {b o1 o2 : Nat → Int32} {post : Int32 → Int32 → Int32 → Int32 → Int32 → Int32 → Int32 → (Nat → Int32) → (Nat → Int32) → (Nat → Int32) → Prop} (K : post (nI r) d f la nn s th b o1 o2) : ∀ j i, lwF M j i = some r → i + j < 32 → F_X12_orbit_28 forms many w post j (nI M) (nI i) d f la nn s th b o1 o2
  | 0, i, h, _ => by simp [lwF] at h
  | j + 1, i, h, hi => by
    unfold F_X12_orbit_28
    refine f_holds (by omega) (by omega) ?_
    rw [lwF] at h
    cases e : M.testBit i with
    | true =>
      rw [if_pos e] at h
      simp at h
      subst h
      exact br3 (by decide) K
    | false =>
      rw [if_neg (by rw [e]; decide)] at h
      rw [nI_1]
      exact br4 rfl (orb_28 hM K j (i + 1) h (by omega))
theorem f_leastLike {n c v : Nat} {dk : Bool} (h1 : 1 ≤ n) (h2 : n ≤ (if dk then 5 else 6)) (hc : c ∈ CT n dk) (hv : v < n) {ab : Int32} {fo : Int64} {ib : Int32} {is' : Int32} {it : Int32} {le : Int32} {nn : Int32} {od : Int64} {se : Int64} {sl : Int32} {sy : Int32} {cl : Int64} {dk' : Int32} {sn : Int32} {fans : (Nat → Int64)} {near : (Nat → Int32)} (ho : ordOk od) {post : Int32 → Int32 → Int64 → Int32 → Int32 → Int32 → Int32 → Int32 → Int64 → Int64 → Int32 → Int32 → Int64 → Int32 → Int32 → (Nat → Int64) → (Nat → Int32) → Prop} (K : ∀ ab fo ib is' it le nn od se sl sy cl dk' sn fans near, ordOk od → post (oI (lwF (lkF (ags n (dkM n c) (byM n c)) (posF ((ags n (dkM n c) (byM n c)).headD []) v)) 31 0)) ab fo ib is' it le nn od se sl sy cl dk' sn fans near) : F_X2_leastLike ab fo ib is' it le nn od se sl sy cl dk' sn fans near (nI n) (nI c) (nI v) post := by
  have hn : n ≤ 6 := by cases dk <;> simp at h2 <;> omega
  unfold F_X2_leastLike
  refine f_study hn (CT_lt h1 h2 hc) ho (fun ab fo ib is' it le nn od se sl sy cl dk' sn fans near hF => ?_)
  obtain ⟨_, e2, e3, e4, hod, hFS, _⟩ := hF
  have hs := (hFS.2 (ags_ne _ _ _)).2.2 (by decide)
  subst e4
  rw [hs.1]
  refine f_leastSeenWith hn (sn_eq hn hv (ags_get hn)).1 (by omega) ?_
  rw [ls_eq (fun p hp => (sn_eq hn hp (ags_get hn)).2) n 0 (by omega), orb_facts h1 h2 hc hv]
  exact K _ _ _ _ _ _ _ _ _ _ _ _ _ _ _ _ hod
theorem lc8 (xs : Nat → Int32) (L : Nat) (hL3 : L ≤ 3072) : LC8 xs L IInv := by
  unfold LC8
  intro x4 m_begin m_dark m_end m_faultAt m_form m_hasImage m_heldDark m_lasts m_nodes m_pairs m_point m_symmetries m_taped m_thrown m_toldEdges m_toldForm m_toldNodes m_toldSymmetries m_writtenMany m_by m_decks m_draft m_firstOrder m_five m_forms m_held m_image m_many m_order m_seen m_tape m_toldOrder m_world m_written o x_hasImage x_cycleSums_edges x_cycleSums_hasDark x_cycleSums_parts x_cycleSums_ways x_decks x_draft_bannedCircles x_draft_endLines x_draft_endsJoined x_draft_fewestEdges x_draft_hasDark x_draft_least x_draft_most x_draft_mostEdges x_draft_patterns x_draft_ruleLines x_draft_size x_draft_unlike x_draft_words x_draft_patternCodes x_draft_patternNodes x_forms_allBits x_forms_firstOrder x_forms_isBeaten x_forms_isStudy x_forms_isTest x_forms_least x_forms_nodes x_forms_order x_forms_seen x_forms_stillEdges x_forms_symmetries x_forms_sketch_colours x_forms_sketch_darks x_forms_sketch_nodes x_forms_sketch_fans x_forms_sketch_near x_keptLevels_total x_keptLevels_codes x_keptLevels_firsts x_keptRules_bannedCircles x_keptRules_endLines x_keptRules_endsJoined x_keptRules_fewestEdges x_keptRules_hasDark x_keptRules_least x_keptRules_most x_keptRules_mostEdges x_keptRules_patterns x_keptRules_ruleLines x_keptRules_size x_keptRules_unlike x_keptRules_words x_keptRules_patternCodes x_keptRules_patternNodes x_keptWalkers_allParts x_keptWalkers_depths x_keptWalkers_lists x_keptWalkers_ownParts x_levels_total x_levels_codes x_levels_firsts x_match_best x_match_code x_match_one_colours x_match_one_darks x_match_one_nodes x_match_one_fans x_match_one_near x_match_two_colours x_match_two_darks x_match_two_nodes x_match_two_fans x_match_two_near x_page_length x_page_bytes x_rules_bannedCircles x_rules_endLines x_rules_endsJoined x_rules_fewestEdges x_rules_hasDark x_rules_least x_rules_most x_rules_mostEdges x_rules_patterns x_rules_ruleLines x_rules_size x_rules_unlike x_rules_words x_rules_patternCodes x_rules_patternNodes x_sketch_colours x_sketch_darks x_sketch_nodes x_sketch_fans x_sketch_near x_tape_begun x_tape_length x_tape_position x_tape_wrong x_tape_bytes x_texts_code x_texts_nodes x_toldForms_allBits x_toldForms_firstOrder x_toldForms_isBeaten x_toldForms_isStudy x_toldForms_isTest x_toldForms_least x_toldForms_nodes x_toldForms_order x_toldForms_seen x_toldForms_stillEdges x_toldForms_symmetries x_toldForms_sketch_colours x_toldForms_sketch_darks x_toldForms_sketch_nodes x_toldForms_sketch_fans x_toldForms_sketch_near x_walkers_allParts x_walkers_depths x_walkers_lists x_walkers_ownParts hx0 hxL hI
  obtain ⟨k, hT, hK, hW, hG, hD, hO, hP⟩ := hI
  obtain ⟨hk, hw, ⟨q1, q2, q3, q4, q5, q6, q7, q8, q9, q10, q11, q12, hp⟩, hL, hU⟩ := hK
  subst q1 q2 q3 q4 q5 q6 q7 q8 q9 q10 q11 q12
  have hsz := size_le hk
  have a1 := arg_in hx0 hxL (by omega) (j := 1) (by omega)
  have a2 := arg_in hx0 hxL (by omega) (j := 2) (by omega)
  have a3 := arg_in hx0 hxL (by omega) (j := 3) (by omega)
  have a4 := arg_in hx0 hxL (by omega) (j := 4) (by omega)
  have a5 := arg_in hx0 hxL (by omega) (j := 5) (by omega)
  have o0 := vp_in_nI (n := 0) (N := 1) (by decide) (by decide)
  
  unfold F_law_c8 F_L_orbit F_law_c8_711 F_X11_orbit F_X12_orbit F_X12_thrown
  refine ⟨a1, a2, a3, ?_⟩
  generalize xs (x4 + 1).toNatClampNeg = p1
  generalize xs (x4 + 2).toNatClampNeg = p2
  generalize xs (x4 + 3).toNatClampNeg = p3
  rcases net_q hk p1 p2 with h | ⟨n, i, h1, h2, rfl, hi, rfl⟩
  · exact x_needNet_n hk hL h ⟨rfl, a1, a2, a3, f_noNode_n hk hw hU (Or.inl h) (br2 (by decide) (law_fin rfl (fun e => absurd e (by decide)) ⟨rfl, k, hT, ⟨hk, hw, ⟨rfl, rfl, rfl, rfl, rfl, rfl, rfl, rfl, rfl, rfl, rfl, rfl, hp⟩, hL, hU⟩, hW, hG, hD, hO, hP⟩))⟩
  · obtain ⟨hc, _, hd⟩ := lvl_get hk h1 h2 hi
    have n6 : n ≤ 6 := by omega
    refine x_needNet_y hk hL h1 h2 hi ?_
    rcases node_q n (by omega) p3 with h3 | ⟨v, hv, rfl⟩
    · exact x_needNode_n h3 ⟨rfl, a1, a2, a3, f_noNode_n hk hw hU (Or.inr ⟨n, i, h1, h2, rfl, hi, rfl, h3⟩) (br2 (by decide) (law_fin rfl (fun e => absurd e (by decide)) ⟨rfl, k, hT, ⟨hk, hw, ⟨rfl, rfl, rfl, rfl, rfl, rfl, rfl, rfl, rfl, rfl, rfl, rfl, hp⟩, hL, hU⟩, hW, hG, hD, hO, hP⟩))⟩
    · obtain ⟨hM, r, hr⟩ := orb_some (D := dkM n ((lvl k n).getD i 0)) (B := byM n ((lvl k n).getD i 0)) n6 hv
      refine x_needNode_y hv (by omega) (f_leastLike h1 hd hc hv hO.1 (fun ab fo ib is' it le nn od se sl sy cl dk' sn fans near hod => ?_))
      have hO : ordOk od ∧ ordOk x_toldForms_order := ⟨hod, hO.2⟩
      rw [hr]
      exact ⟨o0, a1, a2, a3, f_noNode_y hk hw hU h1 h2 hi hv (br1 rfl (f_takes hk hU h1 h2 hi (fun dark nodes by' hG2 => f_likesOf n6 h1 hv hG2 (fun f l s o1 o2 => ⟨31, orb_28 hM (law_fin rfl (fun _ => updL_in) ⟨rfl, k, hT, ⟨hk, hw, ⟨rfl, rfl, rfl, rfl, rfl, rfl, rfl, rfl, rfl, rfl, rfl, rfl, hp⟩, hL, hU⟩, hW, hG, hD, hO, hP⟩) 31 0 hr (by decide)⟩))))⟩
