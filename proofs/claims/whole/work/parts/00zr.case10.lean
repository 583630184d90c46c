theorem seenF_tb {l : List Nat} {s : Nat} : ∀ N, (∀ i, i < N → l.getD i 0 < 6) → ∀ p v, v < 6 → (seenF l s N).testBit (6 * p + v) = (s.testBit (6 * p + v) || (decide (p < N) && decide (l.getD p 0 = v)))
  | 0, _, p, v, _ => by simp [seenF]
  | k + 1, h, p, v, hv => by
    have ih := seenF_tb (l := l) (s := s) k (fun i hi => h i (by omega)) p v hv
    have hk := h k (by omega)
    rw [seenF, Nat.testBit_or, ih, Nat.testBit_two_pow]
    by_cases e : p = k
    · subst e
      have e1 : decide (6 * p + l.getD p 0 = 6 * p + v) = decide (l.getD p 0 = v) := by
        by_cases q : l.getD p 0 = v
        · rw [decide_eq_true q, decide_eq_true (by omega)]
        · rw [decide_eq_false q, decide_eq_false (by omega)]
      rw [e1]
      simp
    · have e1 : decide (6 * k + l.getD k 0 = 6 * p + v) = false := decide_eq_false (by omega)
      have e2 : decide (p < k + 1) = decide (p < k) := by
        by_cases q : p < k
        · rw [decide_eq_true q, decide_eq_true (by omega)]
        · rw [decide_eq_false q, decide_eq_false (by omega)]
      rw [e1, e2, Bool.or_false]
theorem seenF_lt {l : List Nat} {s : Nat} (hs : s < 2 ^ 36) : ∀ N, N ≤ 6 → (∀ i, i < N → l.getD i 0 < 6) → seenF l s N < 2 ^ 36
  | 0, _, _ => hs
  | k + 1, hN, h => by
    have ih := seenF_lt (l := l) hs k (by omega) (fun i hi => h i (by omega))
    have := h k (by omega)
    exact Nat.or_lt_two_pow ih (Nat.pow_lt_pow_right (by decide) (by omega))
theorem sn_ls {N : Nat} (hN : N ≤ 5) : ∀ (acc : List (List Nat)) (s t : Nat), (∀ l ∈ acc, ∀ i, i < N + 1 → l.getD i 0 < 6) → s < 2 ^ 36 → (∀ v, v < 6 → s.testBit (6 * N + v) = t.testBit v) → acc.foldl (fun s l => seenF l s (N + 1)) s < 2 ^ 36 ∧ ∀ v, v < 6 → (acc.foldl (fun s l => seenF l s (N + 1)) s).testBit (6 * N + v) = (acc.foldl (fun s l => s ||| 2 ^ l.getD (N + 1 - 1) 0) t).testBit v
  | [], s, t, _, hs, h => ⟨hs, h⟩
  | l :: acc, s, t, hl, hs, h => by
    have h1 := hl l (by simp)
    refine sn_ls hN acc _ _ (fun l' h' => hl l' (by simp [h'])) (seenF_lt hs _ (by omega) h1) (fun v hv => ?_)
    rw [seenF_tb _ h1 N v hv, h v hv, Nat.testBit_or, Nat.testBit_two_pow, decide_eq_true (show N < N + 1 by omega), Bool.true_and, show N + 1 - 1 = N by omega]
theorem ags_get {n D : Nat} {B : Nat → Nat} (hn : n ≤ 6) : ∀ l ∈ ags n D B, ∀ i, i < n → l.getD i 0 < 6 := by
  intro l hl i hi
  have hl := (List.mem_filter.mp hl).1
  have := lex_mem_len hl
  have hx := lex_mem hl (l.getD i 0) (getD_mem (by omega))
  omega
theorem f_lastNodes {n c : Nat} (h1 : 1 ≤ n) (hn : n ≤ 6) (hc : c < 2 ^ LN n) {ab : Int32} {fo : Int64} {ib : Int32} {is' : Int32} {it : Int32} {le : Int32} {nn : Int32} {od : Int64} {se : Int64} {sl : Int32} {sy : Int32} {cl : Int64} {dk' : Int32} {sn : Int32} {fans : (Nat → Int64)} {near : (Nat → Int32)} (ho : ordOk od) {post : Int32 → Int32 → Int64 → Int32 → Int32 → Int32 → Int32 → Int32 → Int64 → Int64 → Int32 → Int32 → Int64 → Int32 → Int32 → (Nat → Int64) → (Nat → Int32) → Prop} (K : ∀ S ab fo ib is' it le nn od se sl sy cl dk' sn fans near, ordOk od → le = nI (frm n (dkM n c) (byM n c)) → S < 64 → (∀ v, v < 6 → S.testBit v = (lsM n (ags n (dkM n c) (byM n c))).testBit v) → post (nI S) ab fo ib is' it le nn od se sl sy cl dk' sn fans near) : F_X2_lastNodes ab fo ib is' it le nn od se sl sy cl dk' sn fans near (nI n) (nI c) post := by
  obtain ⟨N, rfl⟩ : ∃ N, n = N + 1 := ⟨n - 1, by omega⟩
  unfold F_X2_lastNodes
  refine f_study hn hc ho (fun ab fo ib is' it le nn od se sl sy cl dk' sn fans near hF => ?_)
  obtain ⟨_, e2, e3, e4, hod, hFS, _⟩ := hF
  have hs := (hFS.2 (ags_ne _ _ _)).2.2 (by decide)
  obtain ⟨hlt, htb⟩ := sn_ls (show N ≤ 5 by omega) (ags (N + 1) (dkM (N + 1) c) (byM (N + 1) c)) 0 0 (ags_get hn) (by decide) (fun v _ => by simp)
  subst e4
  rw [show nI (N + 1) - 1 = nI N from ni_sub (b := 1) (by omega), hs.1]
  refine f_seenAt hlt (by omega) (K _ _ _ _ _ _ _ _ _ _ _ _ _ _ _ _ _ hod e3 (Nat.mod_lt _ (by decide)) (fun v hv => ?_))
  rw [show (64 : Nat) = 2 ^ 6 by rfl, Nat.testBit_mod_two_pow, decide_eq_true hv, Bool.true_and, Nat.testBit_div_two_pow, Nat.add_comm v]
  exact htb v hv
theorem oI_m1 {o : Option Nat} (ho : ∀ i, o = some i → i < 2 ^ 31) : oI o = -1 ↔ o.isSome = false := by
  cases o with
  | none => exact ⟨fun _ => rfl, fun _ => rfl⟩
  | some i =>
    refine ⟨fun e => ?_, fun e => by simp at e⟩
    have h := nI_toInt (ho i rfl)
    have e : nI i = -1 := e
    rw [e] at h
    have : (-1 : Int32).toInt = -1 := rfl
    omega
theorem ix_lt {L : List Nat} {x i : Nat} (hL : L.length < 2 ^ 31) (h : ixF L x = some i) : i < 2 ^ 31 := by
  unfold ixF at h
  split at h
  · simp at h; omega
  · simp at h
theorem x_taken_tail {k : KD} (hk : KOk k) {total hd sz : Int32} {codes firsts : Nat → Int32} (hL : LvX k total codes firsts) {m x : Nat} (h1 : 1 ≤ m) (h2 : m ≤ 6) (hx : x < 2 ^ 31) {bit : Bool} {post : Int32 → Int32 → Int64 → Int32 → Int32 → Int32 → Int32 → Int32 → Int64 → Int64 → Int32 → Int32 → Int64 → Int32 → Int32 → (Nat → Int64) → (Nat → Int32) → Prop} {postx : String → Int32 → Int64 → Int32 → Int32 → Int32 → Int32 → Int32 → Int64 → Int64 → Int32 → Int32 → Int64 → Int32 → Int32 → (Nat → Int64) → (Nat → Int32) → Prop} {ab : Int32} {fo : Int64} {ib : Int32} {is' : Int32} {it : Int32} {le : Int32} {nn : Int32} {od : Int64} {se : Int64} {sl : Int32} {sy : Int32} {cl : Int64} {dk' : Int32} {sn : Int32} {fans : (Nat → Int64)} {near : (Nat → Int32)} (hle : le = nI x) (K : post (nI (bit && (ixF (lvl k m) x).isSome).toNat) ab fo ib is' it le nn od se sl sy cl dk' sn fans near) : ((¬ nI bit.toNat = 1 → F_X11_taken_60 total codes firsts hd sz post postx (fun s0 a b c d e f g h i j k l m n o p => F_X11_taken_61 total codes firsts hd sz post postx s0 a b c d e f g h i j k l m n o p) ab fo ib is' it le nn od se sl sy cl dk' sn fans near) ∧ (nI bit.toNat = 1 → F_X3_numberOf total codes firsts (nI m) le (fun r49 => ((r49 = (-1) → F_X11_taken_60 total codes firsts hd sz post postx (fun s0 a b c d e f g h i j k l m n o p => F_X11_taken_61 total codes firsts hd sz post postx s0 a b c d e f g h i j k l m n o p) ab fo ib is' it le nn od se sl sy cl dk' sn fans near) ∧ (¬ r49 = (-1) → F_X11_taken_61 total codes firsts hd sz post postx 1 ab fo ib is' it le nn od se sl sy cl dk' sn fans near))))) := by
  subst hle
  unfold F_X11_taken_60 F_X11_taken_61
  have hl := lvl_len k m h2
  cases bit with
  | false =>
    exact br3 (by decide) ⟨by decide, K⟩
  | true =>
    refine br4 rfl (f_numberOf hk hL h1 h2 hx ?_)
    have ho := oI_m1 (o := ixF (lvl k m) x) (fun i hi => ix_lt (by omega) hi)
    rw [Bool.true_and] at K
    cases e : (ixF (lvl k m) x).isSome with
    | false =>
      rw [e] at K
      exact br1 (ho.mpr e) ⟨by decide, K⟩
    | true =>
      rw [e] at K
      exact br2 (fun g => by rw [ho.mp g] at e; simp at e) ⟨by decide, K⟩
theorem f_taken_tail {forms many w : Nat → Int32} {n M : Nat} (hM : M < 2 ^ 31) (hn : n < 32) {o : Option Nat} (ho : ∀ i, o = some i → i < 2 ^ 31) {d f nn s th : Int32} {b o1 o2 : Nat → Int32} {post : Int32 → Int32 → Int32 → Int32 → Int32 → Int32 → Int32 → (Nat → Int32) → (Nat → Int32) → (Nat → Int32) → Prop} (K : post (nI (o.isSome && M.testBit n).toNat) d f (nI M) nn s th b o1 o2) : ((oI o = (-1) → F_X12_taken_34 forms many w post (nI n) 0 d f (nI M) nn s th b o1 o2) ∧ (¬ oI o = (-1) → F_X12_taken_34 forms many w post (nI n) 1 d f (nI M) nn s th b o1 o2)) := by
  unfold F_X12_taken_34 F_X12_taken_56 F_X12_taken_57
  have hm := oI_m1 ho
  cases e : o.isSome with
  | false =>
    rw [e] at K
    exact br1 (hm.mpr e) (br1 rfl ⟨by decide, K⟩)
  | true =>
    rw [e, Bool.true_and] at K
    refine br2 (fun g => by rw [hm.mp g] at e; simp at e) (br2 (by decide) (f_holds hM hn ?_))
    cases e2 : M.testBit n with
    | false =>
      rw [e2] at K
      exact br1 rfl ⟨by decide, K⟩
    | true =>
      rw [e2] at K
      exact br2 (by decide) ⟨by decide, K⟩
theorem ls_lt {N : Nat} : ∀ (acc : List (List Nat)) (s : Nat), (∀ l ∈ acc, ∀ i, i < N + 1 → l.getD i 0 < 6) → s < 64 → acc.foldl (fun s l => s ||| 2 ^ l.getD (N + 1 - 1) 0) s < 64
  | [], s, _, hs => hs
  | l :: acc, s, hl, hs => ls_lt acc _ (fun l' h' => hl l' (by simp [h'])) (Nat.or_lt_two_pow (n := 6) hs (Nat.pow_lt_pow_right (by decide) (hl l (by simp) _ (by omega))))
theorem lc11 (xs : Nat → Int32) (L : Nat) (hL3 : L ≤ 3072) : LC11 xs L IInv := by
  unfold LC11
  intro x4 m_begin m_dark m_end m_faultAt m_form m_hasImage m_heldDark m_lasts m_nodes m_pairs m_point m_symmetries m_taped m_thrown m_toldEdges m_toldForm m_toldNodes m_toldSymmetries m_writtenMany m_by m_decks m_draft m_firstOrder m_five m_forms m_held m_image m_many m_order m_seen m_tape m_toldOrder m_world m_written o x_hasImage x_cycleSums_edges x_cycleSums_hasDark x_cycleSums_parts x_cycleSums_ways x_decks x_draft_bannedCircles x_draft_endLines x_draft_endsJoined x_draft_fewestEdges x_draft_hasDark x_draft_least x_draft_most x_draft_mostEdges x_draft_patterns x_draft_ruleLines x_draft_size x_draft_unlike x_draft_words x_draft_patternCodes x_draft_patternNodes x_forms_allBits x_forms_firstOrder x_forms_isBeaten x_forms_isStudy x_forms_isTest x_forms_least x_forms_nodes x_forms_order x_forms_seen x_forms_stillEdges x_forms_symmetries x_forms_sketch_colours x_forms_sketch_darks x_forms_sketch_nodes x_forms_sketch_fans x_forms_sketch_near x_keptLevels_total x_keptLevels_codes x_keptLevels_firsts x_keptRules_bannedCircles x_keptRules_endLines x_keptRules_endsJoined x_keptRules_fewestEdges x_keptRules_hasDark x_keptRules_least x_keptRules_most x_keptRules_mostEdges x_keptRules_patterns x_keptRules_ruleLines x_keptRules_size x_keptRules_unlike x_keptRules_words x_keptRules_patternCodes x_keptRules_patternNodes x_keptWalkers_allParts x_keptWalkers_depths x_keptWalkers_lists x_keptWalkers_ownParts x_levels_total x_levels_codes x_levels_firsts x_match_best x_match_code x_match_one_colours x_match_one_darks x_match_one_nodes x_match_one_fans x_match_one_near x_match_two_colours x_match_two_darks x_match_two_nodes x_match_two_fans x_match_two_near x_page_length x_page_bytes x_rules_bannedCircles x_rules_endLines x_rules_endsJoined x_rules_fewestEdges x_rules_hasDark x_rules_least x_rules_most x_rules_mostEdges x_rules_patterns x_rules_ruleLines x_rules_size x_rules_unlike x_rules_words x_rules_patternCodes x_rules_patternNodes x_sketch_colours x_sketch_darks x_sketch_nodes x_sketch_fans x_sketch_near x_tape_begun x_tape_length x_tape_position x_tape_wrong x_tape_bytes x_texts_code x_texts_nodes x_toldForms_allBits x_toldForms_firstOrder x_toldForms_isBeaten x_toldForms_isStudy x_toldForms_isTest x_toldForms_least x_toldForms_nodes x_toldForms_order x_toldForms_seen x_toldForms_stillEdges x_toldForms_symmetries x_toldForms_sketch_colours x_toldForms_sketch_darks x_toldForms_sketch_nodes x_toldForms_sketch_fans x_toldForms_sketch_near x_walkers_allParts x_walkers_depths x_walkers_lists x_walkers_ownParts hx0 hxL hI
  obtain ⟨k, hT, hK, hW, hG, hD, hO, hP⟩ := hI
  obtain ⟨hk, hw, ⟨q1, q2, q3, q4, q5, q6, q7, q8, q9, q10, q11, q12, hp⟩, hL, hU⟩ := hK
  subst q1 q2 q3 q4 q5 q6 q7 q8 q9 q10 q11 q12
  have hsz := size_le hk
  have a1 := arg_in hx0 hxL (by omega) (j := 1) (by omega)
  have a2 := arg_in hx0 hxL (by omega) (j := 2) (by omega)
  have a3 := arg_in hx0 hxL (by omega) (j := 3) (by omega)
  have a4 := arg_in hx0 hxL (by omega) (j := 4) (by omega)
  have a5 := arg_in hx0 hxL (by omega) (j := 5) (by omega)
  have o0 := vp_in_nI (n := 0) (N := 1) (by decide) (by decide)
  
  unfold F_law_c11 F_law_c11_935 F_L_taken F_L_taken_20 F_X11_taken F_law_c11_974 F_law_c11_1008 F_law_c11_1014 F_X12_taken F_X12_thrown
  refine ⟨a1, a2, a3, a4, ?_⟩
  generalize xs (x4 + 1).toNatClampNeg = p1
  generalize xs (x4 + 2).toNatClampNeg = p2
  generalize xs (x4 + 3).toNatClampNeg = p3
  by_cases e : xs (x4 + 4).toNatClampNeg = 0
  · refine br1 e ?_
    rcases net_q hk p1 p2 with h | ⟨n, i, h1, h2, rfl, hi, rfl⟩
    · exact x_needGrown_none hk hL h (Or.inl ⟨rfl, a1, a2, a3, a4, br1 e (f_noGrown_none hk hw hU h (br2 (by decide) ⟨by decide, ⟨fun _ => br3 (by decide) ⟨rfl, k, hT, ⟨hk, hw, ⟨rfl, rfl, rfl, rfl, rfl, rfl, rfl, rfl, rfl, rfl, rfl, rfl, hp⟩, hL, hU⟩, hW, hG, hD, hO, hP⟩, fun g => g rfl⟩⟩))⟩)
    · rcases grown_q k n p3 0 with hb | ⟨s, hs, rfl, h4⟩
      · exact x_needGrown_bad hk hL h1 h2 hi hb (Or.inr (Or.inl ⟨rfl, a1, a2, a3, a4, br1 e (f_noGrown_bad hk hw hU h1 h2 hi hb (br2 (by decide) ⟨by decide, ⟨fun _ => br3 (by decide) ⟨rfl, k, hT, ⟨hk, hw, ⟨rfl, rfl, rfl, rfl, rfl, rfl, rfl, rfl, rfl, rfl, rfl, rfl, hp⟩, hL, hU⟩, hW, hG, hD, hO, hP⟩, fun g => g rfl⟩⟩))⟩))
      · rw [nI_1]
        refine x_needGrown_ok hk hL h1 h2 hi hs h4 (fun en => Or.inr (Or.inr ⟨rfl, a1, a2, a3, a4, br1 e (f_noGrown_ok hk hw hU h1 h2 hi hs h4 (fun _ => (br2 (by decide) ⟨by decide, ⟨fun _ => br3 (by decide) ⟨rfl, k, hT, ⟨hk, hw, ⟨rfl, rfl, rfl, rfl, rfl, rfl, rfl, rfl, rfl, rfl, rfl, rfl, hp⟩, hL, hU⟩, hW, hG, hD, hO, hP⟩, fun g => g rfl⟩⟩)) (fun g => absurd en (by omega)))⟩)) (fun hlt => ?_)
        obtain ⟨gc, gf, ga⟩ := gr_net (n := n) (c := (lvl k n).getD i 0) (s := s) (dk := decide ((0 : Int32) ≠ 0)) hs
        refine f_lastNodes (by omega) (by omega) gc hO.1 (fun S ab fo ib is' it le nn od se sl sy cl dk' sn fans near hod hle hS64 hSb => ?_)
        rw [gf] at hle
        rw [ga] at hSb
        have hO : ordOk od ∧ ordOk x_toldForms_order := ⟨hod, hO.2⟩
        rw [ni_tb (by omega) (by omega), hSb n (by omega)]
        refine x_taken_tail hk hL (by omega) (by omega) (frm31 (by omega)) hle ?_
        have hM : lsM (n + 1) (ags (n + 1) (grD n (dkM n ((lvl k n).getD i 0)) (decide ((0 : Int32) ≠ 0))) (grB n (byM n ((lvl k n).getD i 0)) s)) < 64 := ls_lt (N := n) _ 0 (ags_get (by omega)) (by decide)
        have hl := lvl_len k (n + 1) (by omega)
        rw [Bool.and_comm]
        cases eT : (ixF (lvl k (n + 1)) (frm (n + 1) (grD n (dkM n ((lvl k n).getD i 0)) (decide ((0 : Int32) ≠ 0))) (grB n (byM n ((lvl k n).getD i 0)) s))).isSome && (lsM (n + 1) (ags (n + 1) (grD n (dkM n ((lvl k n).getD i 0)) (decide ((0 : Int32) ≠ 0))) (grB n (byM n ((lvl k n).getD i 0)) s))).testBit n with
        | false =>
          refine br1 rfl ⟨o0, a1, a2, a3, a4, br1 e (f_noGrown_ok hk hw hU h1 h2 hi hs h4 (fun en => absurd hlt (by omega)) (fun _ d nn b hRG => br1 rfl (f_formNow (by omega) (by omega) hRG (fun lasts sym first order hLF => f_numberOf12 hk hU (by omega) (by omega) (frm31 (by omega)) ?_))))⟩
          rw [(hLF (ags_ne _ _ _)).2.1]
          refine f_taken_tail (by omega) (by omega) (fun i hi => ix_lt (by omega) hi) ?_
          rw [eT]
          exact ⟨fun _ => ⟨fun g => absurd rfl g, fun _ => ⟨o0, br1 rfl (by rw [updL_in]; exact br1 (by decide) ⟨rfl, k, hT, ⟨hk, hw, ⟨rfl, rfl, rfl, rfl, rfl, rfl, rfl, rfl, rfl, rfl, rfl, rfl, hp⟩, hL, hU⟩, hW, hG, hD, hO, hP⟩)⟩⟩, fun g => g rfl⟩
        | true =>
          refine br2 (by decide) ⟨o0, a1, a2, a3, a4, br1 e (f_noGrown_ok hk hw hU h1 h2 hi hs h4 (fun en => absurd hlt (by omega)) (fun _ d nn b hRG => br1 rfl (f_formNow (by omega) (by omega) hRG (fun lasts sym first order hLF => f_numberOf12 hk hU (by omega) (by omega) (frm31 (by omega)) ?_))))⟩
          rw [(hLF (ags_ne _ _ _)).2.1]
          refine f_taken_tail (by omega) (by omega) (fun i hi => ix_lt (by omega) hi) ?_
          rw [eT]
          exact ⟨fun _ => ⟨fun g => absurd rfl g, fun _ => ⟨o0, br2 (by decide) (by rw [updL_in]; exact br1 (by decide) ⟨rfl, k, hT, ⟨hk, hw, ⟨rfl, rfl, rfl, rfl, rfl, rfl, rfl, rfl, rfl, rfl, rfl, rfl, hp⟩, hL, hU⟩, hW, hG, hD, hO, hP⟩)⟩⟩, fun g => g rfl⟩
  · refine br2 e ?_
    rcases net_q hk p1 p2 with h | ⟨n, i, h1, h2, rfl, hi, rfl⟩
    · exact x_needGrown_none hk hL h (Or.inl ⟨rfl, a1, a2, a3, a4, br2 e (f_noGrown_none hk hw hU h (br2 (by decide) ⟨by decide, ⟨fun _ => br3 (by decide) ⟨rfl, k, hT, ⟨hk, hw, ⟨rfl, rfl, rfl, rfl, rfl, rfl, rfl, rfl, rfl, rfl, rfl, rfl, hp⟩, hL, hU⟩, hW, hG, hD, hO, hP⟩, fun g => g rfl⟩⟩))⟩)
    · rcases grown_q k n p3 1 with hb | ⟨s, hs, rfl, h4⟩
      · exact x_needGrown_bad hk hL h1 h2 hi hb (Or.inr (Or.inl ⟨rfl, a1, a2, a3, a4, br2 e (f_noGrown_bad hk hw hU h1 h2 hi hb (br2 (by decide) ⟨by decide, ⟨fun _ => br3 (by decide) ⟨rfl, k, hT, ⟨hk, hw, ⟨rfl, rfl, rfl, rfl, rfl, rfl, rfl, rfl, rfl, rfl, rfl, rfl, hp⟩, hL, hU⟩, hW, hG, hD, hO, hP⟩, fun g => g rfl⟩⟩))⟩))
      · rw [nI_1]
        refine x_needGrown_ok hk hL h1 h2 hi hs h4 (fun en => Or.inr (Or.inr ⟨rfl, a1, a2, a3, a4, br2 e (f_noGrown_ok hk hw hU h1 h2 hi hs h4 (fun _ => (br2 (by decide) ⟨by decide, ⟨fun _ => br3 (by decide) ⟨rfl, k, hT, ⟨hk, hw, ⟨rfl, rfl, rfl, rfl, rfl, rfl, rfl, rfl, rfl, rfl, rfl, rfl, hp⟩, hL, hU⟩, hW, hG, hD, hO, hP⟩, fun g => g rfl⟩⟩)) (fun g => absurd en (by omega)))⟩)) (fun hlt => ?_)
        obtain ⟨gc, gf, ga⟩ := gr_net (n := n) (c := (lvl k n).getD i 0) (s := s) (dk := decide ((1 : Int32) ≠ 0)) hs
        refine f_lastNodes (by omega) (by omega) gc hO.1 (fun S ab fo ib is' it le nn od se sl sy cl dk' sn fans near hod hle hS64 hSb => ?_)
        rw [gf] at hle
        rw [ga] at hSb
        have hO : ordOk od ∧ ordOk x_toldForms_order := ⟨hod, hO.2⟩
        rw [ni_tb (by omega) (by omega), hSb n (by omega)]
        refine x_taken_tail hk hL (by omega) (by omega) (frm31 (by omega)) hle ?_
        have hM : lsM (n + 1) (ags (n + 1) (grD n (dkM n ((lvl k n).getD i 0)) (decide ((1 : Int32) ≠ 0))) (grB n (byM n ((lvl k n).getD i 0)) s)) < 64 := ls_lt (N := n) _ 0 (ags_get (by omega)) (by decide)
        have hl := lvl_len k (n + 1) (by omega)
        rw [Bool.and_comm]
        cases eT : (ixF (lvl k (n + 1)) (frm (n + 1) (grD n (dkM n ((lvl k n).getD i 0)) (decide ((1 : Int32) ≠ 0))) (grB n (byM n ((lvl k n).getD i 0)) s))).isSome && (lsM (n + 1) (ags (n + 1) (grD n (dkM n ((lvl k n).getD i 0)) (decide ((1 : Int32) ≠ 0))) (grB n (byM n ((lvl k n).getD i 0)) s))).testBit n with
        | false =>
          refine br1 rfl ⟨o0, a1, a2, a3, a4, br2 e (f_noGrown_ok hk hw hU h1 h2 hi hs h4 (fun en => absurd hlt (by omega)) (fun _ d nn b hRG => br1 rfl (f_formNow (by omega) (by omega) hRG (fun lasts sym first order hLF => f_numberOf12 hk hU (by omega) (by omega) (frm31 (by omega)) ?_))))⟩
          rw [(hLF (ags_ne _ _ _)).2.1]
          refine f_taken_tail (by omega) (by omega) (fun i hi => ix_lt (by omega) hi) ?_
          rw [eT]
          exact ⟨fun _ => ⟨fun g => absurd rfl g, fun _ => ⟨o0, br1 rfl (by rw [updL_in]; exact br1 (by decide) ⟨rfl, k, hT, ⟨hk, hw, ⟨rfl, rfl, rfl, rfl, rfl, rfl, rfl, rfl, rfl, rfl, rfl, rfl, hp⟩, hL, hU⟩, hW, hG, hD, hO, hP⟩)⟩⟩, fun g => g rfl⟩
        | true =>
          refine br2 (by decide) ⟨o0, a1, a2, a3, a4, br2 e (f_noGrown_ok hk hw hU h1 h2 hi hs h4 (fun en => absurd hlt (by omega)) (fun _ d nn b hRG => br1 rfl (f_formNow (by omega) (by omega) hRG (fun lasts sym first order hLF => f_numberOf12 hk hU (by omega) (by omega) (frm31 (by omega)) ?_))))⟩
          rw [(hLF (ags_ne _ _ _)).2.1]
          refine f_taken_tail (by omega) (by omega) (fun i hi => ix_lt (by omega) hi) ?_
          rw [eT]
          exact ⟨fun _ => ⟨fun g => absurd rfl g, fun _ => ⟨o0, br2 (by decide) (by rw [updL_in]; exact br1 (by decide) ⟨rfl, k, hT, ⟨hk, hw, ⟨rfl, rfl, rfl, rfl, rfl, rfl, rfl, rfl, rfl, rfl, rfl, rfl, hp⟩, hL, hU⟩, hW, hG, hD, hO, hP⟩)⟩⟩, fun g => g rfl⟩
