def lsc (a b : Nat) (l : List Nat) : Bool := !(decide (min (l.getD a 0) (l.getD b 0) < a) || (min (l.getD a 0) (l.getD b 0) == a && decide (max (l.getD a 0) (l.getD b 0) < b)))
theorem lst_app (acc : List (List Nat)) (l : List Nat) (a b : Nat) : lstE (acc ++ [l]) a b = (lstE acc a b && lsc a b l) := by
  simp only [lstE, lsc, List.all_append, List.all_cons, List.all_nil, Bool.and_true]
theorem le_body {n D : Nat} {B : Nat → Nat} {dark nodes : Int32} {by' : Nat → Int32} (hn : n ≤ 6) (hG : RG n D B dark nodes by') {a b : Nat} (ha : a < n) (hb : b < n) {post : Int32 → (Nat → Int32) → Prop} {o : Nat → Int32} {l : List Nat} {Xs : List (List Nat)} {f : Nat} (ho : OrdA o l n) (step : F_X12_isLeastEdge_71 dark (nI (frm n D B)) nodes by' post (F_X12_isLeastEdge_6 dark (nI (frm n D B)) nodes by' post f) (nI a) (nI b) (nI (lstE ((Xs ++ [l]).filter (fun l => cod D B l == frm n D B)) a b).toNat) o) : F_X12_isLeastEdge_6 dark (nI (frm n D B)) nodes by' post (f + 1) (nI a) (nI b) (nI (lstE (Xs.filter (fun l => cod D B l == frm n D B)) a b).toNat) o := by
  unfold F_X12_isLeastEdge_6
  have hc := cod_lt21 (D := D) (B := B) (l := l) hn (by rw [ho.1]; exact Nat.le_refl _)
  have hf : frm n D B < 2 ^ 31 := frm31 hn
  obtain ⟨oa, la⟩ := ho.2 a ha
  obtain ⟨ob, lb⟩ := ho.2 b hb
  refine ⟨vp_in_nI (by omega) (by decide), vp_in_nI (by omega) (by decide), fun x4 e4 => ⟨vp_in_nI (by omega) (by decide), vp_in_nI (by omega) (by decide), fun x5 e5 => f_codeNow hn hG ho ?_⟩⟩
  rw [nI_clamp (by omega), nI_clamp (by omega), oa, ob] at e4 e5
  rw [nI_min (by omega) (by omega)] at e4
  rw [nI_max (by omega) (by omega)] at e5
  subst e4 e5
  rw [List.filter_append] at step
  by_cases e : cod D B l = frm n D B
  · refine br4 (by rw [e]) ?_
    have e2 : [l].filter (fun l => cod D B l == frm n D B) = [l] := by simp [e]
    rw [e2, lst_app] at step
    unfold lsc at step
    unfold F_X12_isLeastEdge_69
    by_cases g1 : min (l.getD a 0) (l.getD b 0) < a
    · rw [decide_eq_true g1, Bool.true_or, Bool.not_true, Bool.and_false] at step
      exact br1 (nI_lt g1 (by omega)) step
    · rw [decide_eq_false g1, Bool.false_or] at step
      refine br2 (fun g => g1 ((nI_ltI (by omega) (by omega)).mp g)) ?_
      by_cases g2 : min (l.getD a 0) (l.getD b 0) = a
      · rw [beq_iff_eq.mpr g2, Bool.true_and] at step
        refine br4 (by rw [g2]) ?_
        by_cases g3 : max (l.getD a 0) (l.getD b 0) < b
        · rw [decide_eq_true g3, Bool.not_true, Bool.and_false] at step
          exact br2 (nI_ge (by omega) (by omega)) step
        · rw [decide_eq_false g3, Bool.not_false, Bool.and_true] at step
          exact br1 (nI_le (by omega) (by omega)) step
      · rw [beq_eq_false_iff_ne.mpr g2, Bool.false_and, Bool.not_false, Bool.and_true] at step
        exact br3 (fun g => g2 (ni_inj (by omega) (by omega) g)) step
  · refine br3 (fun g => e (ni_inj (by omega) hf g)) ?_
    have e2 : [l].filter (fun l => cod D B l == frm n D B) = [] := by simp [e]
    rw [e2, List.append_nil] at step
    exact step
theorem le_6 {n D : Nat} {B : Nat → Nat} {dark nodes : Int32} {by' : Nat → Int32} (hn : n ≤ 6) (h1 : 1 ≤ n) (hG : RG n D B dark nodes by') {a b : Nat} (ha : a < n) (hb : b < n) {post : Int32 → (Nat → Int32) → Prop} (K : ∀ order, post (nI (lstE (ags n D B) a b).toNat) order) : ∀ (L : List (List Nat)) (l : List Nat) (Xs : List (List Nat)) (o : Nat → Int32), lex n = Xs ++ l :: L → chn n (l :: L) = true → OrdA o l n → F_X12_isLeastEdge_6 dark (nI (frm n D B)) nodes by' post (L.length + 1) (nI a) (nI b) (nI (lstE (Xs.filter (fun l => cod D B l == frm n D B)) a b).toNat) o := by
  intro L
  induction L with
  | nil =>
    intro l Xs o hlex hch ho
    refine le_body hn hG ha hb ho ?_
    unfold F_X12_isLeastEdge_71
    rw [← hlex, hG.2.1]
    refine f_nextOrder hn h1 ho (fun _ => ?_) (fun l' o' e _ => ?_)
    · exact ⟨fun a => absurd rfl a, fun _ => ⟨bb1 _, K _⟩⟩
    · simp [chn] at hch
      rw [hch] at e
      simp at e
  | cons l2 L ih =>
    intro l Xs o hlex hch ho
    refine le_body hn hG ha hb ho ?_
    unfold F_X12_isLeastEdge_71
    have hG2 := hG.2.1
    subst hG2
    simp only [chn, Bool.and_eq_true, beq_iff_eq] at hch
    refine f_nextOrder hn h1 ho (fun e => ?_) (fun l' o' e ho' => ?_)
    · rw [hch.1] at e; simp at e
    · rw [hch.1] at e
      simp at e
      subst e
      exact ⟨fun _ => ih l2 (Xs ++ [l]) o' (by rw [hlex]; simp) hch.2 ho', fun a => absurd a (by decide)⟩
theorem f_isLeastEdge {n D : Nat} {B : Nat → Nat} {dark nodes : Int32} {by' od : Nat → Int32} (hn : n ≤ 6) (h1 : 1 ≤ n) (hG : RG n D B dark nodes by') {a b : Nat} (ha : a < n) (hb : b < n) {post : Int32 → (Nat → Int32) → Prop} (K : ∀ order, post (nI (lstE (ags n D B) a b).toNat) order) : F_X12_isLeastEdge dark (nI (frm n D B)) nodes by' od (nI a) (nI b) post := by
  unfold F_X12_isLeastEdge
  rw [hG.2.1]
  refine f_beginsOrders hn (fun o' ho' => ?_)
  obtain ⟨L, hL⟩ := lex_cons n hn
  refine ⟨L.length + 1, ?_⟩
  have g := le_6 (post := post) hn h1 hG ha hb K L (List.range n) [] o' (by rw [hL]; rfl) (by rw [← hL]; exact chn_lex n hn) ho'
  rw [hG.2.1] at g
  exact g
theorem stI_le (n m : Nat) (h l : List Nat) (k : Nat) : ∀ e, stI n m h l k e ≤ e
  | 0 => Nat.le_refl _
  | e + 1 => by
    have := stI_le n m h l k e
    rw [stI]
    split <;> omega
theorem stO_le (n m : Nat) (h l : List Nat) : ∀ k, k ≤ 6 → stO n m h l k ≤ 6 * k
  | 0, _ => Nat.le_refl _
  | k + 1, hk => by
    have := stO_le n m h l k (by omega)
    have := stI_le n m h l k k
    rw [stO]
    omega
theorem stA_le {n m : Nat} {h : List Nat} (hn : n ≤ 6) : ∀ (acc : List (List Nat)) (s : Nat), acc.foldl (fun s l => s + stO n m h l n) s ≤ s + 36 * acc.length
  | [], s => by simp
  | l :: acc, s => by
    have h1 := stA_le (n := n) (m := m) (h := h) hn acc (s + stO n m h l n)
    have h2 := stO_le n m h l n hn
    rw [List.foldl_cons, List.length_cons]
    omega
theorem f_unlikeEdges {n c : Nat} {dk : Bool} (h1 : 1 ≤ n) (h2 : n ≤ (if dk then 5 else 6)) (hc : c ∈ CT n dk) {ab : Int32} {fo : Int64} {ib : Int32} {is' : Int32} {it : Int32} {le : Int32} {nn : Int32} {od : Int64} {se : Int64} {sl : Int32} {sy : Int32} {cl : Int64} {dk' : Int32} {sn : Int32} {fans : (Nat → Int64)} {near : (Nat → Int32)} (ho : ordOk od) {post : Int32 → Int32 → Int64 → Int32 → Int32 → Int32 → Int32 → Int32 → Int64 → Int64 → Int32 → Int32 → Int64 → Int32 → Int32 → (Nat → Int64) → (Nat → Int32) → Prop} (K : ∀ ab fo ib is' it le nn od se sl sy cl dk' sn fans near, ordOk od → post (nI (lnR n (byM n c) (ags n (dkM n c) (byM n c)))) ab fo ib is' it le nn od se sl sy cl dk' sn fans near) : F_X2_unlikeEdges ab fo ib is' it le nn od se sl sy cl dk' sn fans near (nI n) (nI c) post := by
  have hn : n ≤ 6 := by cases dk <;> simp at h2 <;> omega
  have f9 := (CT_facts h1 h2 hc).2.2.2.2.2.2.2.2.1
  have ht := chO_A h1 h2 hc
  unfold chO2 at ht
  simp only [Bool.and_eq_true] at ht
  have ht := beq_iff_eq.mp ht.2
  unfold F_X2_unlikeEdges F_X2_unlikeEdges_26
  refine f_study hn (CT_lt h1 h2 hc) ho (fun ab fo ib is' it le nn od se sl sy cl dk' sn fans near hF => ?_)
  obtain ⟨_, e2, e3, e4, hod, hFS, _⟩ := hF
  have hs := (hFS.2 (ags_ne _ _ _)).2.2 (by decide)
  have hsy := hFS.1
  have hst := hs.2
  rw [f9] at hst
  have hA : (ags n (dkM n c) (byM n c)).length < 1000 := Nat.lt_of_le_of_lt (List.length_filter_le _ _) (lex_len n hn)
  have hA0 : 0 < (ags n (dkM n c) (byM n c)).length := List.length_pos_iff.mpr (ags_ne _ _ _)
  have hB : stA n c ((ags n (dkM n c) (byM n c)).headD []) (ags n (dkM n c) (byM n c)) ≤ 0 + 36 * (ags n (dkM n c) (byM n c)).length := stA_le hn _ 0
  have K := K ab fo ib is' it le nn od se sl sy cl dk' sn fans near hod
  rw [← ht] at K
  rw [hst, hsy] at K ⊢
  refine br2 (nI_ge (a := 0) hA0 (by omega)) ⟨fun e => by have := ni_inj (b := 0) (by omega) (by decide) e; omega, ?_⟩
  rw [ni_div (by omega) (by omega) hA0]
  exact K
def inP (B : Nat → Nat) (acc : List (List Nat)) (a s k : Nat) : Nat := (List.range k).foldl (fun s b => if decide (a < b) && ((B a).testBit b && lstE acc a b) then s + 1 else s) s
def ouP (n : Nat) (B : Nat → Nat) (acc : List (List Nat)) (k : Nat) : Nat := (List.range k).foldl (fun s a => inP B acc a s n) 0
theorem inP_succ (B : Nat → Nat) (acc : List (List Nat)) (a s k : Nat) : inP B acc a s (k + 1) = if decide (a < k) && ((B a).testBit k && lstE acc a k) then inP B acc a s k + 1 else inP B acc a s k := by
  unfold inP
  rw [List.range_succ, List.foldl_append]
  rfl
theorem inP_low (B : Nat → Nat) (acc : List (List Nat)) (a s : Nat) : ∀ k, k ≤ a + 1 → inP B acc a s k = s
  | 0, _ => rfl
  | k + 1, h => by
    rw [inP_succ, decide_eq_false (show ¬ a < k by omega), Bool.false_and, if_neg (by decide), inP_low B acc a s k (by omega)]
theorem ouP_succ (n : Nat) (B : Nat → Nat) (acc : List (List Nat)) (k : Nat) : ouP n B acc (k + 1) = inP B acc k (ouP n B acc k) n := by
  unfold ouP
  rw [List.range_succ, List.foldl_append]
  rfl
theorem ln_38 {n D : Nat} {B : Nat → Nat} {forms many w by' fo : Nat → Int32} {la sy th : Int32} (hn : n ≤ 6) (h1 : 1 ≤ n) (hG : RG n D B (nI D) (nI n) by') {a s : Nat} (ha : a < n) {post : Int32 → Int32 → Int32 → Int32 → Int32 → Int32 → Int32 → (Nat → Int32) → (Nat → Int32) → (Nat → Int32) → Prop} {K26 : Int32 → Int32 → Int32 → Int32 → Int32 → Int32 → Int32 → Int32 → Int32 → (Nat → Int32) → (Nat → Int32) → (Nat → Int32) → Prop} (K : ∀ order, K26 (nI n) (nI (inP B (ags n D B) a s n)) (nI (a + 1)) (nI D) (nI (frm n D B)) la (nI n) sy th by' fo order) : ∀ j b order, b + j = n → a < b → F_X12_lines_38 forms many w post K26 (j + 1) (nI n) (nI (inP B (ags n D B) a s b)) (nI a) (nI b) (nI D) (nI (frm n D B)) la (nI n) sy th by' fo order := by
  intro j
  induction j with
  | zero =>
    intro b order hb hab
    have : b = n := by omega
    subst this
    unfold F_X12_lines_38
    rw [nI_1]
    exact br1 (Int32.le_refl _) (K _)
  | succ j ih =>
    intro b order hb hab
    have ih := fun order => ih (b + 1) order (by omega) (by omega)
    simp only [inP_succ, decide_eq_true hab, Bool.true_and] at ih
    unfold F_X12_lines_38 F_X12_lines_76 F_X12_lines_78
    refine br2 (nI_ge (by omega) (by omega)) ⟨vp_in_nI (by omega) (by decide), ?_⟩
    rw [nI_clamp (by omega), (hG.2.2.2 a ha).1, nI_1]
    refine f_holds (hG.2.2.2 a ha).2 (by omega) ?_
    cases e : (B a).testBit b with
    | false =>
      rw [e] at ih
      exact br1 rfl (ih _)
    | true =>
      rw [e] at ih
      refine br2 (by decide) (f_isLeastEdge hn h1 hG ha (by omega) (fun order => ?_))
      cases e2 : lstE (ags n D B) a b with
      | false =>
        rw [e2] at ih
        refine br1 rfl ?_
        rw [Int32.add_zero]
        dsimp only
        rw [nI_1]
        exact ih _
      | true =>
        rw [e2] at ih
        refine br2 (by decide) ?_
        dsimp only
        rw [nI_1, nI_1]
        exact ih _
theorem ln_26 {n D : Nat} {B : Nat → Nat} {forms many w by' fo : Nat → Int32} {la sy th : Int32} (hn : n ≤ 6) (h1 : 1 ≤ n) (hG : RG n D B (nI D) (nI n) by') {post : Int32 → Int32 → Int32 → Int32 → Int32 → Int32 → Int32 → (Nat → Int32) → (Nat → Int32) → (Nat → Int32) → Prop} (K : ∀ order, post (nI (lnR n B (ags n D B))) (nI D) (nI (frm n D B)) la (nI n) sy th by' fo order) : ∀ j a order, a + j = n → F_X12_lines_26 forms many w post (j + 1) (nI n) (nI (ouP n B (ags n D B) a)) (nI a) (nI D) (nI (frm n D B)) la (nI n) sy th by' fo order := by
  intro j
  induction j with
  | zero =>
    intro a order ha
    have : a = n := by omega
    subst this
    unfold F_X12_lines_26
    exact br1 (Int32.le_refl _) (K _)
  | succ j ih =>
    intro a order ha
    have ih := fun order => ih (a + 1) order (by omega)
    rw [ouP_succ] at ih
    unfold F_X12_lines_26
    refine br2 (nI_ge (by omega) (by omega)) ⟨n - (a + 1) + 1, ?_⟩
    have g := ln_38 (forms := forms) (many := many) (w := w) (post := post) hn h1 hG (show a < n by omega) ih (n - (a + 1)) (a + 1) order (by omega) (by omega)
    rw [inP_low _ _ _ _ _ (Nat.le_refl _)] at g
    rw [nI_1]
    exact g
theorem lc19 (xs : Nat → Int32) (L : Nat) (hL3 : L ≤ 3072) : LC19 xs L IInv := by
  unfold LC19
  intro x4 m_begin m_dark m_end m_faultAt m_form m_hasImage m_heldDark m_lasts m_nodes m_pairs m_point m_symmetries m_taped m_thrown m_toldEdges m_toldForm m_toldNodes m_toldSymmetries m_writtenMany m_by m_decks m_draft m_firstOrder m_five m_forms m_held m_image m_many m_order m_seen m_tape m_toldOrder m_world m_written o x_hasImage x_cycleSums_edges x_cycleSums_hasDark x_cycleSums_parts x_cycleSums_ways x_decks x_draft_bannedCircles x_draft_endLines x_draft_endsJoined x_draft_fewestEdges x_draft_hasDark x_draft_least x_draft_most x_draft_mostEdges x_draft_patterns x_draft_ruleLines x_draft_size x_draft_unlike x_draft_words x_draft_patternCodes x_draft_patternNodes x_forms_allBits x_forms_firstOrder x_forms_isBeaten x_forms_isStudy x_forms_isTest x_forms_least x_forms_nodes x_forms_order x_forms_seen x_forms_stillEdges x_forms_symmetries x_forms_sketch_colours x_forms_sketch_darks x_forms_sketch_nodes x_forms_sketch_fans x_forms_sketch_near x_keptLevels_total x_keptLevels_codes x_keptLevels_firsts x_keptRules_bannedCircles x_keptRules_endLines x_keptRules_endsJoined x_keptRules_fewestEdges x_keptRules_hasDark x_keptRules_least x_keptRules_most x_keptRules_mostEdges x_keptRules_patterns x_keptRules_ruleLines x_keptRules_size x_keptRules_unlike x_keptRules_words x_keptRules_patternCodes x_keptRules_patternNodes x_keptWalkers_allParts x_keptWalkers_depths x_keptWalkers_lists x_keptWalkers_ownParts x_levels_total x_levels_codes x_levels_firsts x_match_best x_match_code x_match_one_colours x_match_one_darks x_match_one_nodes x_match_one_fans x_match_one_near x_match_two_colours x_match_two_darks x_match_two_nodes x_match_two_fans x_match_two_near x_page_length x_page_bytes x_rules_bannedCircles x_rules_endLines x_rules_endsJoined x_rules_fewestEdges x_rules_hasDark x_rules_least x_rules_most x_rules_mostEdges x_rules_patterns x_rules_ruleLines x_rules_size x_rules_unlike x_rules_words x_rules_patternCodes x_rules_patternNodes x_sketch_colours x_sketch_darks x_sketch_nodes x_sketch_fans x_sketch_near x_tape_begun x_tape_length x_tape_position x_tape_wrong x_tape_bytes x_texts_code x_texts_nodes x_toldForms_allBits x_toldForms_firstOrder x_toldForms_isBeaten x_toldForms_isStudy x_toldForms_isTest x_toldForms_least x_toldForms_nodes x_toldForms_order x_toldForms_seen x_toldForms_stillEdges x_toldForms_symmetries x_toldForms_sketch_colours x_toldForms_sketch_darks x_toldForms_sketch_nodes x_toldForms_sketch_fans x_toldForms_sketch_near x_walkers_allParts x_walkers_depths x_walkers_lists x_walkers_ownParts hx0 hxL hI
  obtain ⟨k, hT, hK, hW, hG, hD, hO, hP⟩ := hI
  obtain ⟨hk, hw, ⟨q1, q2, q3, q4, q5, q6, q7, q8, q9, q10, q11, q12, hp⟩, hL, hU⟩ := hK
  subst q1 q2 q3 q4 q5 q6 q7 q8 q9 q10 q11 q12
  have hsz := size_le hk
  have a1 := arg_in hx0 hxL (by omega) (j := 1) (by omega)
  have a2 := arg_in hx0 hxL (by omega) (j := 2) (by omega)
  have a3 := arg_in hx0 hxL (by omega) (j := 3) (by omega)
  have a4 := arg_in hx0 hxL (by omega) (j := 4) (by omega)
  have a5 := arg_in hx0 hxL (by omega) (j := 5) (by omega)
  have o0 := vp_in_nI (n := 0) (N := 1) (by decide) (by decide)
  
  unfold F_law_c19 F_L_lines F_law_c19_1642 F_X11_lines F_X12_lines F_X12_thrown
  refine ⟨a1, a2, ?_⟩
  generalize xs (x4 + 1).toNatClampNeg = p1
  generalize xs (x4 + 2).toNatClampNeg = p2
  rcases net_q hk p1 p2 with h | ⟨n, i, h1, h2, rfl, hi, rfl⟩
  · exact x_needNet_n hk hL h ⟨rfl, a1, a2, f_noNet_n hk hw hU h (br2 (by decide) (law_fin rfl (fun e => absurd e (by decide)) ⟨rfl, k, hT, ⟨hk, hw, ⟨rfl, rfl, rfl, rfl, rfl, rfl, rfl, rfl, rfl, rfl, rfl, rfl, hp⟩, hL, hU⟩, hW, hG, hD, hO, hP⟩))⟩
  · obtain ⟨hc, hlt, hd⟩ := lvl_get hk h1 h2 hi
    have n6 : n ≤ 6 := by omega
    refine x_needNet_y hk hL h1 h2 hi (f_unlikeEdges h1 hd hc hO.1 (fun ab fo ib is' it le nn od se sl sy cl dk' sn fans near hod => ?_))
    have hO : ordOk od ∧ ordOk x_toldForms_order := ⟨hod, hO.2⟩
    refine ⟨o0, a1, a2, f_noNet_y hk hw hU h1 h2 hi (br1 rfl (f_takes hk hU h1 h2 hi (fun dark nodes by' hRG => f_laysForm n6 h1 hRG (fun lasts sym first order hLF => ?_))))⟩
    have e1 := hRG.1
    have e2 := hRG.2.1
    subst e1 e2
    exact ⟨n + 1, ln_26 n6 h1 hRG (fun order => law_fin rfl (fun _ => updL_in) ⟨rfl, k, hT, ⟨hk, hw, ⟨rfl, rfl, rfl, rfl, rfl, rfl, rfl, rfl, rfl, rfl, rfl, rfl, hp⟩, hL, hU⟩, hW, hG, hD, hO, hP⟩) n 0 _ (by omega)⟩
