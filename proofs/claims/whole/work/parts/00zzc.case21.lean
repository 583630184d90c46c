/-! nodes left out, one after the other from the last -/
def SQ (D : Nat) (B : Nat → Nat) (q : List Nat) (D' : Nat) (B' : Nat → Nat) : Prop := D' < 64 ∧ (∀ u, u < q.length → B' u < 64) ∧ (∀ u, u < q.length → D'.testBit u = D.testBit (q.getD u 0)) ∧ ∀ u w, u < q.length → w < q.length → (B' u).testBit w = (B (q.getD u 0)).testBit (q.getD w 0)
theorem skip_get {A R : List Nat} {v u : Nat} (hA : A.length = v) : (A ++ R).getD u 0 = (A ++ v :: R).getD (skp v u) 0 := by
  unfold skp
  rw [List.getD_eq_getElem?_getD, List.getD_eq_getElem?_getD]
  by_cases h : u < v
  · rw [if_pos h, List.getElem?_append_left (by omega), List.getElem?_append_left (by omega)]
  · rw [if_neg h, List.getElem?_append_right (by omega), List.getElem?_append_right (by omega), show u + 1 - A.length = (u - A.length) + 1 by omega, List.getElem?_cons_succ]
theorem skp_lt {A R : List Nat} {v u : Nat} (hA : A.length = v) (hu : u < (A ++ R).length) : skp v u < (A ++ v :: R).length := by
  rw [List.length_append] at hu
  rw [List.length_append, List.length_cons]
  unfold skp
  split <;> omega
theorem SQ_drop {D D' : Nat} {B B' : Nat → Nat} {A R : List Nat} {v : Nat} (hA : A.length = v) (hl : (A ++ v :: R).length ≤ 6) (h : SQ D B (A ++ v :: R) D' B') : SQ D B (A ++ R) (rmb D' v) (fun u => rmb (B' (skp v u)) v) := by
  obtain ⟨h1, h2, h3, h4⟩ := h
  have hlen : (A ++ R).length + 1 = (A ++ v :: R).length := by rw [List.length_append, List.length_append, List.length_cons]; omega
  have hv : v < 6 := by rw [List.length_append, List.length_cons] at hl; omega
  refine ⟨rmb_lt v hv _ h1, fun u hu => rmb_lt v hv _ (h2 _ (skp_lt hA hu)), fun u hu => ?_, fun u w hu hw => ?_⟩
  · rw [rmb_tb v hv _ h1 u (by omega), h3 _ (skp_lt hA hu), ← skip_get hA]
  · show (rmb (B' (skp v u)) v).testBit w = _
    rw [rmb_tb v hv _ (h2 _ (skp_lt hA hu)) w (by omega), h4 _ _ (skp_lt hA hu) (skp_lt hA hw), ← skip_get hA, ← skip_get hA]
theorem SQ_frm {n D D' : Nat} {B B' : Nat → Nat} {q : List Nat} (hB : GB n B) (hq : ∀ x ∈ q, x < n) (h : SQ D B q D' B') : frm q.length D' B' = frm q.length (dkM q.length (cod D B q)) (byM q.length (cod D B q)) := by
  obtain ⟨_, _, h3, h4⟩ := h
  obtain ⟨g1, g2⟩ := net_cod (D := D) hB rfl hq
  refine (frm_congr (fun l hl => cod_congr (fun v hv => ?_) (fun v hv u hu => ?_))).1
  · have hv := lex_mem hl v hv
    rw [h3 v hv, g1 v hv]
  · have hv := lex_mem hl v hv
    have hu := lex_mem hl u hu
    rw [h4 v u hv hu, g2 v u hv hu]
def gtL (s : Nat) : Nat → Nat → List Nat
  | 0, _ => []
  | j + 1, v => if s.testBit v then v :: gtL s j (v + 1) else gtL s j (v + 1)
theorem gtL_nds : ∀ n, n ≤ 6 → ∀ s, s < 64 → gtL s n 0 = nds s n := by decide +kernel
theorem gtL_len (s : Nat) : ∀ j v, (gtL s j v).length ≤ j
  | 0, _ => Nat.le_refl _
  | j + 1, v => by
    have := gtL_len s j (v + 1)
    rw [gtL]
    split
    · rw [List.length_cons]; omega
    · omega
theorem SQ_all {n c : Nat} (hn : n ≤ 6) : SQ (dkM n c) (byM n c) (List.range n ++ []) (dkM n c) (byM n c) := by
  rw [List.append_nil]
  refine ⟨dkM64 hn, fun u _ => byM64 hn, fun u hu => ?_, fun u w hu hw => ?_⟩
  · rw [List.length_range] at hu
    rw [range_getD hu]
  · rw [List.length_range] at hu hw
    rw [range_getD hu, range_getD hw]
theorem sub_neg1 (x : Int32) : x + (-1) = x - 1 := (Int32.sub_eq_add_neg x 1).symm
/-- the state in which the nodes from k on are those of the set -/
def DropSt (n D : Nat) (B : Nat → Nat) (s k : Nat) (dk nn : Int32) (by' : Nat → Int32) : Prop := ∃ D' B', SQ D B (List.range k ++ gtL s (n - k) k) D' B' ∧ RG (List.range k ++ gtL s (n - k) k).length D' B' dk nn by'
theorem drop_keep {n D k s : Nat} {B : Nat → Nat} (hk : k + 1 ≤ n) (hs : s.testBit k = true) {dk nn : Int32} {by' : Nat → Int32} (h : DropSt n D B s (k + 1) dk nn by') : DropSt n D B s k dk nn by' := by
  unfold DropSt at h ⊢
  have e : List.range k ++ gtL s (n - k) k = List.range (k + 1) ++ gtL s (n - (k + 1)) (k + 1) := by
    rw [show n - k = n - (k + 1) + 1 by omega, gtL, if_pos hs, List.range_succ, List.append_assoc]
    rfl
  rw [e]
  exact h
theorem drop_out {n D k s : Nat} {B : Nat → Nat} (hn : n ≤ 6) (hk : k + 1 ≤ n) (hs : s.testBit k = false) {dk nn : Int32} {by' : Nat → Int32} (h : DropSt n D B s (k + 1) dk nn by') {post : Int32 → Int32 → (Nat → Int32) → Prop} (K : ∀ dk nn by', DropSt n D B s k dk nn by' → post dk nn by') : F_X12_drops dk nn by' (nI k) post := by
  obtain ⟨D', B', hQ, hR⟩ := h
  have e1 : List.range (k + 1) ++ gtL s (n - (k + 1)) (k + 1) = List.range k ++ k :: gtL s (n - (k + 1)) (k + 1) := by rw [List.range_succ, List.append_assoc]; rfl
  have e2 : List.range k ++ gtL s (n - k) k = List.range k ++ gtL s (n - (k + 1)) (k + 1) := by
    rw [show n - k = n - (k + 1) + 1 by omega, gtL, if_neg (by rw [hs]; decide)]
  rw [e1] at hQ hR
  have hgl := gtL_len s (n - (k + 1)) (k + 1)
  have hlen : (List.range k ++ k :: gtL s (n - (k + 1)) (k + 1)).length = (List.range k ++ gtL s (n - (k + 1)) (k + 1)).length + 1 := by rw [List.length_append, List.length_append, List.length_cons]; rfl
  have hl6 : (List.range k ++ k :: gtL s (n - (k + 1)) (k + 1)).length ≤ 6 := by rw [List.length_append, List.length_cons, List.length_range]; omega
  have hkl : k < (List.range k ++ k :: gtL s (n - (k + 1)) (k + 1)).length := by rw [List.length_append, List.length_cons, List.length_range]; omega
  refine f_drops hl6 hkl hQ.1 hR hQ.2.1 (fun dk2 nn2 b2 hR2 => K dk2 nn2 b2 ?_)
  unfold DropSt
  rw [e2]
  rw [hlen, Nat.add_sub_cancel] at hR2
  exact ⟨_, _, SQ_drop List.length_range hl6 hQ, hR2⟩
theorem drop_end {n D s m : Nat} {B : Nat → Nat} (hn : n ≤ 6) (hB : GB n B) (hs : s < 64) (hm : (nds s n).length = m) {dk nn : Int32} {by' : Nat → Int32} (h : DropSt n D B s 0 dk nn by') : ∃ D' B', RG m D' B' dk nn by' ∧ frm m D' B' = frm m (dkM m (cod D B (nds s n))) (byM m (cod D B (nds s n))) := by
  obtain ⟨D', B', hQ, hR⟩ := h
  have e : List.range 0 ++ gtL s (n - 0) 0 = nds s n := by rw [Nat.sub_zero, gtL_nds n hn s hs]; rfl
  rw [e] at hQ hR
  subst hm
  exact ⟨D', B', hR, SQ_frm hB (fun x hx => nds_mem hx) hQ⟩
theorem drop_begin {n c s : Nat} (hn : n ≤ 6) {dk nn : Int32} {by' : Nat → Int32} (h : RG n (dkM n c) (byM n c) dk nn by') : DropSt n (dkM n c) (byM n c) s n dk nn by' := by
  unfold DropSt
  rw [Nat.sub_self]
  refine ⟨dkM n c, byM n c, SQ_all hn, ?_⟩
  show RG (List.range n ++ []).length _ _ _ _ _
  rw [List.append_nil, List.length_range]
  exact h
theorem wi_58 {n D s m j fm : Nat} {B : Nat → Nat} (hn : n ≤ 6) (hB : GB n B) (hs : s < 64) (hm : (nds s n).length = m) (hm1 : 1 ≤ m) (hm6 : m ≤ 6) (hj : j < 600) (hfm : fm < 2 ^ 31) {forms many w : Nat → Int32} (hf : forms (600 * m + j) = nI fm) {x1 x2 : Int32} {x5 : Nat} {th : Int32} {post : Int32 → Int32 → Int32 → Int32 → Int32 → Int32 → Int32 → (Nat → Int32) → (Nat → Int32) → (Nat → Int32) → Prop} {K115 : Int32 → Int32 → Int32 → Int32 → Int32 → Int32 → Int32 → Int32 → Int32 → Int32 → Int32 → Int32 → (Nat → Int32) → (Nat → Int32) → (Nat → Int32) → Prop} (K : ∀ d f l nn sy b o1 o2, K115 x1 x2 (nI m) (nI j) (nI (x5 + (if frm m (dkM m (cod D B (nds s n))) (byM m (cod D B (nds s n))) == fm then 1 else 0))) (nI s) d f l nn sy th b o1 o2) : ∀ k dk nn by' f l sy fo od, k ≤ n → DropSt n D B s k dk nn by' → F_X12_within_58 forms many w post K115 (k + 1) x1 x2 (nI m) (nI j) (nI x5) (nI s) (nI k - 1) dk f l nn sy th by' fo od := by
  intro k
  induction k with
  | zero =>
    intro dk nn by' f l sy fo od hk hD
    obtain ⟨D', B', hR, e⟩ := drop_end hn hB hs hm hD
    unfold F_X12_within_58 F_X12_within_112
    refine br1 (by decide) (f_formNow hm6 hm1 hR (fun lasts sym first order _ => ?_))
    rw [show (600 : Int32) * nI m = nI (600 * m) from ni_mul 600 m, nI_add, nI_clamp (by omega), hf, e]
    refine ⟨vp_in_nI (by omega) (by decide), ?_⟩
    by_cases g : frm m (dkM m (cod D B (nds s n))) (byM m (cod D B (nds s n))) = fm
    · rw [if_pos (beq_iff_eq.mpr g)] at K
      refine br4 (by rw [g]) ?_
      rw [nI_1]
      exact K _ _ _ _ _ _ _ _
    · rw [if_neg (by rw [beq_iff_eq]; exact g)] at K
      refine br3 (fun e => g (ni_inj (frm31 hm6) hfm e)) ?_
      rw [Int32.add_zero]
      exact K _ _ _ _ _ _ _ _
  | succ k ih =>
    intro dk nn by' f l sy fo od hk hD
    unfold F_X12_within_58 F_X12_within_79
    rw [nI_pred, sub_neg1]
    refine br2 (nI_pos (by omega)) (f_holds (by omega) (by omega) ?_)
    cases e : s.testBit k with
    | true => exact br3 (by decide) (ih _ _ _ _ _ _ _ _ (by omega) (drop_keep hk e hD))
    | false => exact br4 rfl (drop_out hn hk e hD (fun dk nn by' hD => ih _ _ _ _ _ _ _ _ (by omega) hD))
theorem f_within27 {k : KD} (hk : KOk k) {w forms many : Nat → Int32} (hU : LvUp k 7 forms many) {n i m j : Nat} (h1 : 1 ≤ n) (h2 : n ≤ kSz k) (hi : i < (lvl k n).length) (m1 : 1 ≤ m) (m2 : m ≤ kSz k) (hj : j < (lvl k m).length) {th : Int32} {post : Int32 → Int32 → Int32 → Int32 → Int32 → Int32 → Int32 → (Nat → Int32) → (Nat → Int32) → (Nat → Int32) → Prop} (K : ∀ d f l nn s b o1 o2, post (nI (plC n ((lvl k n).getD i 0) m ((lvl k m).getD j 0) (2 ^ n))) d f l nn s th b o1 o2) : ∀ r s d f l nn sy b o1 o2, s + r = 2 ^ n → F_X12_within_27 forms many w post (r + 1) (nI n) (nI i) (nI m) (nI j) (nI (plC n ((lvl k n).getD i 0) m ((lvl k m).getD j 0) s)) (nI s) d f l nn sy th b o1 o2 := by
  have hsz := size_le hk
  have hp : 2 ^ n ≤ 64 := show 2 ^ n ≤ 2 ^ 6 from Nat.pow_le_pow_right (by decide) (by omega)
  have hlm := lvl_len k m (by omega)
  intro r
  induction r with
  | zero =>
    intro s d f l nn sy b o1 o2 hs
    have : s = 2 ^ n := by omega
    subst this
    unfold F_X12_within_27
    rw [ni_1shl (by omega)]
    exact br1 (nI_le (Nat.le_refl _) (by omega)) (K _ _ _ _ _ _ _ _)
  | succ r ih =>
    intro s d f l nn sy b o1 o2 hs
    have ih := fun d f l nn sy b o1 o2 => ih (s + 1) d f l nn sy b o1 o2 (by omega)
    have hpl := plC_le n ((lvl k n).getD i 0) m ((lvl k m).getD j 0) s
    have hs24 : s < 2 ^ 24 := by omega
    have hpc : popc s 24 = (nds s n).length := by
      rw [nds_len]
      have := popc_big (x := s) (k := n) (by omega) (24 - n)
      rw [show n + (24 - n) = 24 by omega] at this
      exact this
    have hpc2 := popc_le s 24
    rw [plC] at ih
    unfold lkS at ih
    unfold F_X12_within_27 F_X12_within_115
    rw [ni_1shl (by omega)]
    refine br2 (nI_ge (by omega) (by omega)) (f_bits12 hs24 ?_)
    rw [nI_1]
    by_cases e : popc s 24 = m
    · rw [beq_iff_eq.mpr e, Bool.true_and] at ih
      refine br1 (by rw [e]) (f_takes hk hU h1 h2 hi (fun dark nodes by' hR => ⟨n + 1, ?_⟩))
      refine wi_58 (D := dkM n ((lvl k n).getD i 0)) (B := byM n ((lvl k n).getD i 0)) (by omega) (gb_byM _ _) (by omega) (hpc.symm.trans e) m1 (by omega) (by omega) (Nat.lt_trans (lvl_lt31 hk m1 (by omega) hj) (by decide)) ((hU m m1 (by omega)).2 j hj) (fun d f l nn sy b o1 o2 => ?_) n dark nodes by' _ _ _ _ _ (Nat.le_refl _) (drop_begin (by omega) hR)
      show F_X12_within_27 forms many w post (r + 1) _ _ _ _ _ (nI s + 1) _ _ _ _ _ _ _ _ _
      rw [nI_1]
      exact ih _ _ _ _ _ _ _ _
    · rw [beq_eq_false_iff_ne.mpr e, Bool.false_and, if_neg (by decide), Nat.add_zero] at ih
      exact br2 (fun g => e (ni_inj (by omega) (by omega) g)) (ih _ _ _ _ _ _ _ _)
theorem lc14 (xs : Nat → Int32) (L : Nat) (hL3 : L ≤ 3072) : LC14 xs L IInv := by
  unfold LC14
  intro x4 m_begin m_dark m_end m_faultAt m_form m_hasImage m_heldDark m_lasts m_nodes m_pairs m_point m_symmetries m_taped m_thrown m_toldEdges m_toldForm m_toldNodes m_toldSymmetries m_writtenMany m_by m_decks m_draft m_firstOrder m_five m_forms m_held m_image m_many m_order m_seen m_tape m_toldOrder m_world m_written o x_hasImage x_cycleSums_edges x_cycleSums_hasDark x_cycleSums_parts x_cycleSums_ways x_decks x_draft_bannedCircles x_draft_endLines x_draft_endsJoined x_draft_fewestEdges x_draft_hasDark x_draft_least x_draft_most x_draft_mostEdges x_draft_patterns x_draft_ruleLines x_draft_size x_draft_unlike x_draft_words x_draft_patternCodes x_draft_patternNodes x_forms_allBits x_forms_firstOrder x_forms_isBeaten x_forms_isStudy x_forms_isTest x_forms_least x_forms_nodes x_forms_order x_forms_seen x_forms_stillEdges x_forms_symmetries x_forms_sketch_colours x_forms_sketch_darks x_forms_sketch_nodes x_forms_sketch_fans x_forms_sketch_near x_keptLevels_total x_keptLevels_codes x_keptLevels_firsts x_keptRules_bannedCircles x_keptRules_endLines x_keptRules_endsJoined x_keptRules_fewestEdges x_keptRules_hasDark x_keptRules_least x_keptRules_most x_keptRules_mostEdges x_keptRules_patterns x_keptRules_ruleLines x_keptRules_size x_keptRules_unlike x_keptRules_words x_keptRules_patternCodes x_keptRules_patternNodes x_keptWalkers_allParts x_keptWalkers_depths x_keptWalkers_lists x_keptWalkers_ownParts x_levels_total x_levels_codes x_levels_firsts x_match_best x_match_code x_match_one_colours x_match_one_darks x_match_one_nodes x_match_one_fans x_match_one_near x_match_two_colours x_match_two_darks x_match_two_nodes x_match_two_fans x_match_two_near x_page_length x_page_bytes x_rules_bannedCircles x_rules_endLines x_rules_endsJoined x_rules_fewestEdges x_rules_hasDark x_rules_least x_rules_most x_rules_mostEdges x_rules_patterns x_rules_ruleLines x_rules_size x_rules_unlike x_rules_words x_rules_patternCodes x_rules_patternNodes x_sketch_colours x_sketch_darks x_sketch_nodes x_sketch_fans x_sketch_near x_tape_begun x_tape_length x_tape_position x_tape_wrong x_tape_bytes x_texts_code x_texts_nodes x_toldForms_allBits x_toldForms_firstOrder x_toldForms_isBeaten x_toldForms_isStudy x_toldForms_isTest x_toldForms_least x_toldForms_nodes x_toldForms_order x_toldForms_seen x_toldForms_stillEdges x_toldForms_symmetries x_toldForms_sketch_colours x_toldForms_sketch_darks x_toldForms_sketch_nodes x_toldForms_sketch_fans x_toldForms_sketch_near x_walkers_allParts x_walkers_depths x_walkers_lists x_walkers_ownParts hx0 hxL hI
  obtain ⟨k, hT, hK, hW, hG, hD, hO, hP⟩ := hI
  obtain ⟨hk, hw, ⟨q1, q2, q3, q4, q5, q6, q7, q8, q9, q10, q11, q12, hp⟩, hL, hU⟩ := hK
  subst q1 q2 q3 q4 q5 q6 q7 q8 q9 q10 q11 q12
  have hsz := size_le hk
  have a1 := arg_in hx0 hxL (by omega) (j := 1) (by omega)
  have a2 := arg_in hx0 hxL (by omega) (j := 2) (by omega)
  have a3 := arg_in hx0 hxL (by omega) (j := 3) (by omega)
  have a4 := arg_in hx0 hxL (by omega) (j := 4) (by omega)
  have a5 := arg_in hx0 hxL (by omega) (j := 5) (by omega)
  have o0 := vp_in_nI (n := 0) (N := 1) (by decide) (by decide)
  
  unfold F_law_c14 F_L_within F_law_c14_1254
  refine ⟨a1, a2, a3, a4, ?_⟩
  generalize xs (x4 + 1).toNatClampNeg = p1
  generalize xs (x4 + 2).toNatClampNeg = p2
  generalize xs (x4 + 3).toNatClampNeg = p3
  generalize xs (x4 + 4).toNatClampNeg = p4
  unfold F_X11_within F_X12_within F_X12_within_19 F_X12_thrown
  rcases net_q hk p1 p2 with h | ⟨n, i, h1, h2, rfl, hi, rfl⟩
  · exact x_needNet_n hk hL h ⟨rfl, a1, a2, a3, a4, f_noNet_n hk hw hU h (br3 (by decide) (law_fin rfl (fun e => absurd e (by decide)) ⟨rfl, k, hT, ⟨hk, hw, ⟨rfl, rfl, rfl, rfl, rfl, rfl, rfl, rfl, rfl, rfl, rfl, rfl, hp⟩, hL, hU⟩, hW, hG, hD, hO, hP⟩))⟩
  · refine x_needNet_y hk hL h1 h2 hi ?_
    rcases net_q hk p3 p4 with h | ⟨m, j, m1, m2, rfl, hj, rfl⟩
    · exact x_needNet_n hk hL h ⟨rfl, a1, a2, a3, a4, f_noNet_y hk hw hU h1 h2 hi (br4 rfl (f_noNet_n hk hw hU h (br2 (by decide) (law_fin rfl (fun e => absurd e (by decide)) ⟨rfl, k, hT, ⟨hk, hw, ⟨rfl, rfl, rfl, rfl, rfl, rfl, rfl, rfl, rfl, rfl, rfl, rfl, hp⟩, hL, hU⟩, hW, hG, hD, hO, hP⟩))))⟩
    · refine x_needNet_y hk hL m1 m2 hj (f_partsLike (by omega) (lvl_get hk h1 h2 hi).2.1 (by omega) (lvl_lt31 hk m1 (by omega) hj) hO.1 (fun ab fo ib is' it le nn od se sl sy cl dk' sn fans near hod => ⟨o0, a1, a2, a3, a4, f_noNet_y hk hw hU h1 h2 hi (br4 rfl (f_noNet_y hk hw hU m1 m2 hj (br1 rfl ⟨2 ^ n + 1, f_within27 hk hU h1 h2 hi m1 m2 hj (fun d f l nn s b o1 o2 => ?_) (2 ^ n) 0 _ _ _ _ _ _ _ _ (by omega)⟩)))⟩))
      have hO : ordOk od ∧ ordOk x_toldForms_order := ⟨hod, hO.2⟩
      exact law_fin rfl (fun _ => updL_in) ⟨rfl, k, hT, ⟨hk, hw, ⟨rfl, rfl, rfl, rfl, rfl, rfl, rfl, rfl, rfl, rfl, rfl, rfl, hp⟩, hL, hU⟩, hW, hG, hD, hO, hP⟩
