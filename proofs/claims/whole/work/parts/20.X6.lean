/-! OrderlyNets$Rules: decode rows (printed), and each method kept by its F -/
theorem dX6_patternsKept_0 : decode cX6_patternsKept 0 = .ok (.iload_n 2, 1) := by decide +kernel
theorem dX6_patternsKept_1 : decode cX6_patternsKept 1 = .ok (.iload_n 1, 1) := by decide +kernel
theorem dX6_patternsKept_2 : decode cX6_patternsKept 2 = .ok (.invokestatic 91, 3) := by decide +kernel
theorem dX6_patternsKept_5 : decode cX6_patternsKept 5 = .ok (.iand, 1) := by decide +kernel
theorem dX6_patternsKept_6 : decode cX6_patternsKept 6 = .ok (.istore 4, 2) := by decide +kernel
theorem dX6_patternsKept_8 : decode cX6_patternsKept 8 = .ok (.iconst 0, 1) := by decide +kernel
theorem dX6_patternsKept_9 : decode cX6_patternsKept 9 = .ok (.istore 5, 2) := by decide +kernel
theorem dX6_patternsKept_11 : decode cX6_patternsKept 11 = .ok (.iload 5, 2) := by decide +kernel
theorem dX6_patternsKept_13 : decode cX6_patternsKept 13 = .ok (.aload_n 0, 1) := by decide +kernel
theorem dX6_patternsKept_14 : decode cX6_patternsKept 14 = .ok (.getfield 47, 3) := by decide +kernel
theorem dX6_patternsKept_17 : decode cX6_patternsKept 17 = .ok (.if_icmp .ge 55, 3) := by decide +kernel
theorem dX6_patternsKept_20 : decode cX6_patternsKept 20 = .ok (.iload 5, 2) := by decide +kernel
theorem dX6_patternsKept_22 : decode cX6_patternsKept 22 = .ok (.aload_n 0, 1) := by decide +kernel
theorem dX6_patternsKept_23 : decode cX6_patternsKept 23 = .ok (.getfield 11, 3) := by decide +kernel
theorem dX6_patternsKept_26 : decode cX6_patternsKept 26 = .ok (.arraylength, 1) := by decide +kernel
theorem dX6_patternsKept_27 : decode cX6_patternsKept 27 = .ok (.if_icmp .ge 45, 3) := by decide +kernel
theorem dX6_patternsKept_30 : decode cX6_patternsKept 30 = .ok (.iload 5, 2) := by decide +kernel
theorem dX6_patternsKept_32 : decode cX6_patternsKept 32 = .ok (.aload_n 0, 1) := by decide +kernel
theorem dX6_patternsKept_33 : decode cX6_patternsKept 33 = .ok (.getfield 15, 3) := by decide +kernel
theorem dX6_patternsKept_36 : decode cX6_patternsKept 36 = .ok (.arraylength, 1) := by decide +kernel
theorem dX6_patternsKept_37 : decode cX6_patternsKept 37 = .ok (.if_icmp .ge 35, 3) := by decide +kernel
theorem dX6_patternsKept_40 : decode cX6_patternsKept 40 = .ok (.aload_n 3, 1) := by decide +kernel
theorem dX6_patternsKept_41 : decode cX6_patternsKept 41 = .ok (.iload_n 1, 1) := by decide +kernel
theorem dX6_patternsKept_42 : decode cX6_patternsKept 42 = .ok (.iload 4, 2) := by decide +kernel
theorem dX6_patternsKept_44 : decode cX6_patternsKept 44 = .ok (.aload_n 0, 1) := by decide +kernel
theorem dX6_patternsKept_45 : decode cX6_patternsKept 45 = .ok (.getfield 11, 3) := by decide +kernel
theorem dX6_patternsKept_48 : decode cX6_patternsKept 48 = .ok (.iload 5, 2) := by decide +kernel
theorem dX6_patternsKept_50 : decode cX6_patternsKept 50 = .ok (.iaload, 1) := by decide +kernel
theorem dX6_patternsKept_51 : decode cX6_patternsKept 51 = .ok (.aload_n 0, 1) := by decide +kernel
theorem dX6_patternsKept_52 : decode cX6_patternsKept 52 = .ok (.getfield 15, 3) := by decide +kernel
theorem dX6_patternsKept_55 : decode cX6_patternsKept 55 = .ok (.iload 5, 2) := by decide +kernel
theorem dX6_patternsKept_57 : decode cX6_patternsKept 57 = .ok (.iaload, 1) := by decide +kernel
theorem dX6_patternsKept_58 : decode cX6_patternsKept 58 = .ok (.invokevirtual 97, 3) := by decide +kernel
theorem dX6_patternsKept_61 : decode cX6_patternsKept 61 = .ok (.ifCond .le 5, 3) := by decide +kernel
theorem dX6_patternsKept_64 : decode cX6_patternsKept 64 = .ok (.iconst 0, 1) := by decide +kernel
theorem dX6_patternsKept_65 : decode cX6_patternsKept 65 = .ok (.ireturn, 1) := by decide +kernel
theorem dX6_patternsKept_66 : decode cX6_patternsKept 66 = .ok (.iinc 5 1, 3) := by decide +kernel
theorem dX6_patternsKept_69 : decode cX6_patternsKept 69 = .ok (.goto (-58), 3) := by decide +kernel
theorem dX6_patternsKept_72 : decode cX6_patternsKept 72 = .ok (.iconst 1, 1) := by decide +kernel
theorem dX6_patternsKept_73 : decode cX6_patternsKept 73 = .ok (.ireturn, 1) := by decide +kernel
set_option maxHeartbeats 4000000 in
set_option maxRecDepth 100000 in
theorem c_X6_patternsKept (l : Launch) (D : eD) (T : Nat → ClassId) (h_p3 h_p3_sketch h_p3_sketch_near h_p3_sketch_fans h_t h_t_patternNodes h_t_patternCodes : Nat) (p3_allBits : Int32) (p3_firstOrder : Int64) (p3_isBeaten : Int32) (p3_isStudy : Int32) (p3_isTest : Int32) (p3_least : Int32) (p3_nodes : Int32) (p3_order : Int64) (p3_seen : Int64) (p3_stillEdges : Int32) (p3_symmetries : Int32) (p3_sketch_colours : Int64) (p3_sketch_darks : Int32) (p3_sketch_nodes : Int32) (p3_sketch_fans : Nat → Int64) (p3_sketch_near : Nat → Int32) (t_bannedCircles : Int32) (t_endLines : Int32) (t_endsJoined : Int32) (t_fewestEdges : Int32) (t_hasDark : Int32) (t_least : Int32) (t_most : Int32) (t_mostEdges : Int32) (t_patterns : Int32) (t_ruleLines : Int32) (t_size : Int32) (t_unlike : Int32) (t_words : Int32) (t_patternCodes : Nat → Int32) (t_patternNodes : Nat → Int32) (p1 : Int32) (p2 : Int32) (post : Int32 → Int32 → Int64 → Int32 → Int32 → Int32 → Int32 → Int32 → Int64 → Int64 → Int32 → Int32 → Int64 → Int32 → Int32 → (Nat → Int64) → (Nat → Int32) → Prop) (h : F_X6_patternsKept t_patterns t_patternCodes t_patternNodes p3_allBits p3_firstOrder p3_isBeaten p3_isStudy p3_isTest p3_least p3_nodes p3_order p3_seen p3_stillEdges p3_symmetries p3_sketch_colours p3_sketch_darks p3_sketch_nodes p3_sketch_fans p3_sketch_near p1 p2 post) : cI l D T yX6_patternsKept cX6_patternsKept 6 (some .boolean) 34 882 0 0 [.ref h_t, .int p1, .int p2, .ref h_p3] [(h_p3, .inr (1, [.ref h_p3_sketch, .int p3_nodes, .int p3_allBits, .int p3_isTest, .int p3_isBeaten, .int p3_isStudy, .long p3_order, .int p3_least, .int p3_symmetries, .long p3_firstOrder, .long p3_seen, .int p3_stillEdges])), (h_p3_sketch, .inr (6, [.ref h_p3_sketch_near, .ref h_p3_sketch_fans, .int p3_sketch_nodes, .int p3_sketch_darks, .long p3_sketch_colours])), (h_p3_sketch_fans, aJ T 6 p3_sketch_fans), (h_p3_sketch_near, aI T 6 p3_sketch_near), (h_t, .inr (5, [.int t_size, .int t_hasDark, .int t_words, .int t_ruleLines, .int t_endLines, .int t_most, .int t_bannedCircles, .int t_unlike, .int t_patterns, .ref h_t_patternNodes, .ref h_t_patternCodes, .int t_endsJoined, .int t_fewestEdges, .int t_mostEdges, .int t_least])), (h_t_patternCodes, aI T 2 t_patternCodes), (h_t_patternNodes, aI T 2 t_patternNodes)] (fun r w1 => ∃ (p3_allBits1 : Int32) (p3_firstOrder1 : Int64) (p3_isBeaten1 : Int32) (p3_isStudy1 : Int32) (p3_isTest1 : Int32) (p3_least1 : Int32) (p3_nodes1 : Int32) (p3_order1 : Int64) (p3_seen1 : Int64) (p3_stillEdges1 : Int32) (p3_symmetries1 : Int32) (p3_sketch_colours1 : Int64) (p3_sketch_darks1 : Int32) (p3_sketch_nodes1 : Int32) (p3_sketch_fans1 : Nat → Int64) (p3_sketch_near1 : Nat → Int32), w1 = [(h_p3, .inr (1, [.ref h_p3_sketch, .int p3_nodes1, .int p3_allBits1, .int p3_isTest1, .int p3_isBeaten1, .int p3_isStudy1, .long p3_order1, .int p3_least1, .int p3_symmetries1, .long p3_firstOrder1, .long p3_seen1, .int p3_stillEdges1])), (h_p3_sketch, .inr (6, [.ref h_p3_sketch_near, .ref h_p3_sketch_fans, .int p3_sketch_nodes1, .int p3_sketch_darks1, .long p3_sketch_colours1])), (h_p3_sketch_fans, aJ T 6 p3_sketch_fans1), (h_p3_sketch_near, aI T 6 p3_sketch_near1), (h_t, .inr (5, [.int t_size, .int t_hasDark, .int t_words, .int t_ruleLines, .int t_endLines, .int t_most, .int t_bannedCircles, .int t_unlike, .int t_patterns, .ref h_t_patternNodes, .ref h_t_patternCodes, .int t_endsJoined, .int t_fewestEdges, .int t_mostEdges, .int t_least])), (h_t_patternCodes, aI T 2 t_patternCodes), (h_t_patternNodes, aI T 2 t_patternNodes)] ∧ post r p3_allBits1 p3_firstOrder1 p3_isBeaten1 p3_isStudy1 p3_isTest1 p3_least1 p3_nodes1 p3_order1 p3_seen1 p3_stillEdges1 p3_symmetries1 p3_sketch_colours1 p3_sketch_darks1 p3_sketch_nodes1 p3_sketch_fans1 p3_sketch_near1) := by
  refine xI_of (ty := .boolean) (by decide +kernel) (Nat.le_of_ble_eq_true rfl) rfl ?_
  intro G X hret
  change G 0 0 0 [(0, .ref h_t), (1, .int p1), (2, .int p2), (3, .ref h_p3)] [] [(h_p3, .inr (1, [.ref h_p3_sketch, .int p3_nodes, .int p3_allBits, .int p3_isTest, .int p3_isBeaten, .int p3_isStudy, .long p3_order, .int p3_least, .int p3_symmetries, .long p3_firstOrder, .long p3_seen, .int p3_stillEdges])), (h_p3_sketch, .inr (6, [.ref h_p3_sketch_near, .ref h_p3_sketch_fans, .int p3_sketch_nodes, .int p3_sketch_darks, .long p3_sketch_colours])), (h_p3_sketch_fans, aJ T 6 p3_sketch_fans), (h_p3_sketch_near, aI T 6 p3_sketch_near), (h_t, .inr (5, [.int t_size, .int t_hasDark, .int t_words, .int t_ruleLines, .int t_endLines, .int t_most, .int t_bannedCircles, .int t_unlike, .int t_patterns, .ref h_t_patternNodes, .ref h_t_patternCodes, .int t_endsJoined, .int t_fewestEdges, .int t_mostEdges, .int t_least])), (h_t_patternCodes, aI T 2 t_patternCodes), (h_t_patternNodes, aI T 2 t_patternNodes)]
  unfold F_X6_patternsKept at h
  have k11 : ∀ (n11 : Nat) (x1 : Int32) (x4 : Int32) (x5 : Int32) (p3_allBits : Int32) (p3_firstOrder : Int64) (p3_isBeaten : Int32) (p3_isStudy : Int32) (p3_isTest : Int32) (p3_least : Int32) (p3_nodes : Int32) (p3_order : Int64) (p3_seen : Int64) (p3_stillEdges : Int32) (p3_symmetries : Int32) (p3_sketch_colours : Int64) (p3_sketch_darks : Int32) (p3_sketch_nodes : Int32) (p3_sketch_fans : Nat → Int64) (p3_sketch_near : Nat → Int32), F_X6_patternsKept_11 t_patterns t_patternCodes t_patternNodes post n11 x1 x4 x5 p3_allBits p3_firstOrder p3_isBeaten p3_isStudy p3_isTest p3_least p3_nodes p3_order p3_seen p3_stillEdges p3_symmetries p3_sketch_colours p3_sketch_darks p3_sketch_nodes p3_sketch_fans p3_sketch_near → G 0 0 11 [(0, .ref h_t), (1, .int x1), (3, .ref h_p3), (4, .int x4), (5, .int x5)] [] [(h_p3, .inr (1, [.ref h_p3_sketch, .int p3_nodes, .int p3_allBits, .int p3_isTest, .int p3_isBeaten, .int p3_isStudy, .long p3_order, .int p3_least, .int p3_symmetries, .long p3_firstOrder, .long p3_seen, .int p3_stillEdges])), (h_p3_sketch, .inr (6, [.ref h_p3_sketch_near, .ref h_p3_sketch_fans, .int p3_sketch_nodes, .int p3_sketch_darks, .long p3_sketch_colours])), (h_p3_sketch_fans, aJ T 6 p3_sketch_fans), (h_p3_sketch_near, aI T 6 p3_sketch_near), (h_t, .inr (5, [.int t_size, .int t_hasDark, .int t_words, .int t_ruleLines, .int t_endLines, .int t_most, .int t_bannedCircles, .int t_unlike, .int t_patterns, .ref h_t_patternNodes, .ref h_t_patternCodes, .int t_endsJoined, .int t_fewestEdges, .int t_mostEdges, .int t_least])), (h_t_patternCodes, aI T 2 t_patternCodes), (h_t_patternNodes, aI T 2 t_patternNodes)] := by
    intro n11
    induction n11 with
    | zero => intro x1 x4 x5 p3_allBits p3_firstOrder p3_isBeaten p3_isStudy p3_isTest p3_least p3_nodes p3_order p3_seen p3_stillEdges p3_symmetries p3_sketch_colours p3_sketch_darks p3_sketch_nodes p3_sketch_fans p3_sketch_near h; exact h.elim
    | succ n11 ih11 =>
      intro x1 x4 x5 p3_allBits p3_firstOrder p3_isBeaten p3_isStudy p3_isTest p3_least p3_nodes p3_order p3_seen p3_stillEdges p3_symmetries p3_sketch_colours p3_sketch_darks p3_sketch_nodes p3_sketch_fans p3_sketch_near h
      rw [F_X6_patternsKept_11] at h
      have k72 : ∀ (p3_allBits : Int32) (p3_firstOrder : Int64) (p3_isBeaten : Int32) (p3_isStudy : Int32) (p3_isTest : Int32) (p3_least : Int32) (p3_nodes : Int32) (p3_order : Int64) (p3_seen : Int64) (p3_stillEdges : Int32) (p3_symmetries : Int32) (p3_sketch_colours : Int64) (p3_sketch_darks : Int32) (p3_sketch_nodes : Int32) (p3_sketch_fans : Nat → Int64) (p3_sketch_near : Nat → Int32), F_X6_patternsKept_72 t_patterns t_patternCodes t_patternNodes post p3_allBits p3_firstOrder p3_isBeaten p3_isStudy p3_isTest p3_least p3_nodes p3_order p3_seen p3_stillEdges p3_symmetries p3_sketch_colours p3_sketch_darks p3_sketch_nodes p3_sketch_fans p3_sketch_near → G 0 0 72 [] [] [(h_p3, .inr (1, [.ref h_p3_sketch, .int p3_nodes, .int p3_allBits, .int p3_isTest, .int p3_isBeaten, .int p3_isStudy, .long p3_order, .int p3_least, .int p3_symmetries, .long p3_firstOrder, .long p3_seen, .int p3_stillEdges])), (h_p3_sketch, .inr (6, [.ref h_p3_sketch_near, .ref h_p3_sketch_fans, .int p3_sketch_nodes, .int p3_sketch_darks, .long p3_sketch_colours])), (h_p3_sketch_fans, aJ T 6 p3_sketch_fans), (h_p3_sketch_near, aI T 6 p3_sketch_near), (h_t, .inr (5, [.int t_size, .int t_hasDark, .int t_words, .int t_ruleLines, .int t_endLines, .int t_most, .int t_bannedCircles, .int t_unlike, .int t_patterns, .ref h_t_patternNodes, .ref h_t_patternCodes, .int t_endsJoined, .int t_fewestEdges, .int t_mostEdges, .int t_least])), (h_t_patternCodes, aI T 2 t_patternCodes), (h_t_patternNodes, aI T 2 t_patternNodes)] := by
        intro p3_allBits p3_firstOrder p3_isBeaten p3_isStudy p3_isTest p3_least p3_nodes p3_order p3_seen p3_stillEdges p3_symmetries p3_sketch_colours p3_sketch_darks p3_sketch_nodes p3_sketch_fans p3_sketch_near h
        unfold F_X6_patternsKept_72 at h
        refine x_iconst (v := 1) X dX6_patternsKept_72 (by decide) ?_
        exact hret _ _ _ _ dX6_patternsKept_73 rfl ⟨p3_allBits, p3_firstOrder, p3_isBeaten, p3_isStudy, p3_isTest, p3_least, p3_nodes, p3_order, p3_seen, p3_stillEdges, p3_symmetries, p3_sketch_colours, p3_sketch_darks, p3_sketch_nodes, p3_sketch_fans, p3_sketch_near, rfl, h⟩
      refine x_iload X dX6_patternsKept_11 4 rfl ?_
      refine x_aload_n X dX6_patternsKept_13 0 rfl ?_
      refine x_get X inGX6 8 (by decide) rfl tw_93 dX6_patternsKept_14 rfl 4 rfl rfl ?_
      refine x_icmp_ge (tgt := 72) X dX6_patternsKept_17 (by decide) (fun hc => ?_) (fun hc => ?_)
      · have h := h.1 hc
        exact x_sub X [] rfl (k72 p3_allBits p3_firstOrder p3_isBeaten p3_isStudy p3_isTest p3_least p3_nodes p3_order p3_seen p3_stillEdges p3_symmetries p3_sketch_colours p3_sketch_darks p3_sketch_nodes p3_sketch_fans p3_sketch_near h)
      · have h := h.2 hc
        refine x_iload X dX6_patternsKept_20 4 rfl ?_
        refine x_aload_n X dX6_patternsKept_22 0 rfl ?_
        refine x_get X inGX6 9 (by decide) rfl tw_94 dX6_patternsKept_23 rfl 4 rfl rfl ?_
        refine x_alen (v := (2 : Int32)) X dX6_patternsKept_26 6 1 rfl rfl rfl ?_
        refine x_icmp_ge (tgt := 72) X dX6_patternsKept_27 (by decide) (fun hc => ?_) (fun hc => ?_)
        · have h := h.1 hc
          exact x_sub X [] rfl (k72 p3_allBits p3_firstOrder p3_isBeaten p3_isStudy p3_isTest p3_least p3_nodes p3_order p3_seen p3_stillEdges p3_symmetries p3_sketch_colours p3_sketch_darks p3_sketch_nodes p3_sketch_fans p3_sketch_near h)
        · have h := h.2 hc
          refine x_iload X dX6_patternsKept_30 4 rfl ?_
          refine x_aload_n X dX6_patternsKept_32 0 rfl ?_
          refine x_get X inGX6 10 (by decide) rfl tw_95 dX6_patternsKept_33 rfl 4 rfl rfl ?_
          refine x_alen (v := (2 : Int32)) X dX6_patternsKept_36 5 1 rfl rfl rfl ?_
          refine x_icmp_ge (tgt := 72) X dX6_patternsKept_37 (by decide) (fun hc => ?_) (fun hc => ?_)
          · have h := h.1 hc
            exact x_sub X [] rfl (k72 p3_allBits p3_firstOrder p3_isBeaten p3_isStudy p3_isTest p3_least p3_nodes p3_order p3_seen p3_stillEdges p3_symmetries p3_sketch_colours p3_sketch_darks p3_sketch_nodes p3_sketch_fans p3_sketch_near h)
          · have h := h.2 hc
            refine x_aload_n X dX6_patternsKept_40 2 rfl ?_
            refine x_iload_n X dX6_patternsKept_41 1 rfl ?_
            refine x_iload X dX6_patternsKept_42 3 rfl ?_
            refine x_aload_n X dX6_patternsKept_44 0 rfl ?_
            refine x_get X inGX6 9 (by decide) rfl tw_94 dX6_patternsKept_45 rfl 4 rfl rfl ?_
            refine x_iload X dX6_patternsKept_48 4 rfl ?_
            obtain ⟨hi, h⟩ := h
            refine x_iald X dX6_patternsKept_50 6 rfl hi ?_
            refine x_aload_n X dX6_patternsKept_51 0 rfl ?_
            refine x_get X inGX6 10 (by decide) rfl tw_95 dX6_patternsKept_52 rfl 4 rfl rfl ?_
            refine x_iload X dX6_patternsKept_55 4 rfl ?_
            obtain ⟨hi, h⟩ := h
            refine x_iald X dX6_patternsKept_57 5 rfl hi ?_
            refine x_callVI (av := [.int x1, .int x4, .int (t_patternNodes x5.toNatClampNeg), .int (t_patternCodes x5.toNatClampNeg)]) (st := []) (wr := [(h_t, .inr (5, [.int t_size, .int t_hasDark, .int t_words, .int t_ruleLines, .int t_endLines, .int t_most, .int t_bannedCircles, .int t_unlike, .int t_patterns, .ref h_t_patternNodes, .ref h_t_patternCodes, .int t_endsJoined, .int t_fewestEdges, .int t_mostEdges, .int t_least])), (h_t_patternCodes, aI T 2 t_patternCodes), (h_t_patternNodes, aI T 2 t_patternNodes)]) X (c_X2_partsLike l D T h_p3 h_p3_sketch h_p3_sketch_near h_p3_sketch_fans p3_allBits p3_firstOrder p3_isBeaten p3_isStudy p3_isTest p3_least p3_nodes p3_order p3_seen p3_stillEdges p3_symmetries p3_sketch_colours p3_sketch_darks p3_sketch_nodes p3_sketch_fans p3_sketch_near x1 x4 (t_patternNodes x5.toNatClampNeg) (t_patternCodes x5.toNatClampNeg) _ h) yk_X2_partsLike tw_436 dX6_patternsKept_58 0 rfl rfl [0, 1, 2, 3] [4, 5, 6] rfl rfl rfl rfl (by decide) rfl rfl (Nat.le_of_ble_eq_true rfl) (Nat.le_of_ble_eq_true rfl) (Nat.le_of_ble_eq_true rfl) (Nat.zero_le _) (Nat.zero_le _) (fun r58 w1 hw => ?_)
            obtain ⟨p3_allBits_58, p3_firstOrder_58, p3_isBeaten_58, p3_isStudy_58, p3_isTest_58, p3_least_58, p3_nodes_58, p3_order_58, p3_seen_58, p3_stillEdges_58, p3_symmetries_58, p3_sketch_colours_58, p3_sketch_darks_58, p3_sketch_nodes_58, p3_sketch_fans_58, p3_sketch_near_58, rfl, h⟩ := hw
            refine x_perm (ws2 := [(h_p3, .inr (1, [.ref h_p3_sketch, .int p3_nodes_58, .int p3_allBits_58, .int p3_isTest_58, .int p3_isBeaten_58, .int p3_isStudy_58, .long p3_order_58, .int p3_least_58, .int p3_symmetries_58, .long p3_firstOrder_58, .long p3_seen_58, .int p3_stillEdges_58])), (h_p3_sketch, .inr (6, [.ref h_p3_sketch_near, .ref h_p3_sketch_fans, .int p3_sketch_nodes_58, .int p3_sketch_darks_58, .long p3_sketch_colours_58])), (h_p3_sketch_fans, aJ T 6 p3_sketch_fans_58), (h_p3_sketch_near, aI T 6 p3_sketch_near_58), (h_t, .inr (5, [.int t_size, .int t_hasDark, .int t_words, .int t_ruleLines, .int t_endLines, .int t_most, .int t_bannedCircles, .int t_unlike, .int t_patterns, .ref h_t_patternNodes, .ref h_t_patternCodes, .int t_endsJoined, .int t_fewestEdges, .int t_mostEdges, .int t_least])), (h_t_patternCodes, aI T 2 t_patternCodes), (h_t_patternNodes, aI T 2 t_patternNodes)]) X [3, 4, 5, 6, 0, 1, 2] rfl rfl ?_
            refine x_if_le (tgt := 66) X dX6_patternsKept_61 (by decide) (fun hc => ?_) (fun hc => ?_)
            · have h := h.1 hc
              refine x_iinc (v := (x5 + 1)) (lv' := [(5, .int (x5 + 1)), (0, .ref h_t), (1, .int x1), (3, .ref h_p3), (4, .int x4)]) X dX6_patternsKept_66 4 rfl rfl (by decide) rfl ?_
              refine x_goto (tgt := 11) X dX6_patternsKept_69 (by decide) ?_
              exact x_sub X [1, 2, 3, 4, 0] rfl (ih11 x1 x4 (x5 + 1) p3_allBits_58 p3_firstOrder_58 p3_isBeaten_58 p3_isStudy_58 p3_isTest_58 p3_least_58 p3_nodes_58 p3_order_58 p3_seen_58 p3_stillEdges_58 p3_symmetries_58 p3_sketch_colours_58 p3_sketch_darks_58 p3_sketch_nodes_58 p3_sketch_fans_58 p3_sketch_near_58 h)
            · have h := h.2 hc
              refine x_iconst (v := 0) X dX6_patternsKept_64 (by decide) ?_
              obtain ⟨hz, h⟩ := h
              exact hret _ _ _ _ dX6_patternsKept_65 (e_nz hz) ⟨p3_allBits_58, p3_firstOrder_58, p3_isBeaten_58, p3_isStudy_58, p3_isTest_58, p3_least_58, p3_nodes_58, p3_order_58, p3_seen_58, p3_stillEdges_58, p3_symmetries_58, p3_sketch_colours_58, p3_sketch_darks_58, p3_sketch_nodes_58, p3_sketch_fans_58, p3_sketch_near_58, rfl, h⟩
  refine x_iload_n X dX6_patternsKept_0 2 rfl ?_
  refine x_iload_n X dX6_patternsKept_1 1 rfl ?_
  refine x_callSI (av := [.int p1]) (st := [.int p2]) (wr := [(h_p3, .inr (1, [.ref h_p3_sketch, .int p3_nodes, .int p3_allBits, .int p3_isTest, .int p3_isBeaten, .int p3_isStudy, .long p3_order, .int p3_least, .int p3_symmetries, .long p3_firstOrder, .long p3_seen, .int p3_stillEdges])), (h_p3_sketch, .inr (6, [.ref h_p3_sketch_near, .ref h_p3_sketch_fans, .int p3_sketch_nodes, .int p3_sketch_darks, .long p3_sketch_colours])), (h_p3_sketch_fans, aJ T 6 p3_sketch_fans), (h_p3_sketch_near, aI T 6 p3_sketch_near), (h_t, .inr (5, [.int t_size, .int t_hasDark, .int t_words, .int t_ruleLines, .int t_endLines, .int t_most, .int t_bannedCircles, .int t_unlike, .int t_patterns, .ref h_t_patternNodes, .ref h_t_patternCodes, .int t_endsJoined, .int t_fewestEdges, .int t_mostEdges, .int t_least])), (h_t_patternCodes, aI T 2 t_patternCodes), (h_t_patternNodes, aI T 2 t_patternNodes)]) X (c_X0_allEdges l D T  p1 _ h) yk_X0_allEdges tw_426 dX6_patternsKept_2 [] [0, 1, 2, 3, 4, 5, 6] rfl rfl rfl rfl (by decide) rfl rfl (Nat.le_of_ble_eq_true rfl) (Nat.le_of_ble_eq_true rfl) (Nat.le_of_ble_eq_true rfl) (Nat.zero_le _) (Nat.zero_le _) (fun r2 w1 hw => ?_)
  obtain ⟨rfl, h⟩ := hw
  refine x_perm (ws2 := [(h_p3, .inr (1, [.ref h_p3_sketch, .int p3_nodes, .int p3_allBits, .int p3_isTest, .int p3_isBeaten, .int p3_isStudy, .long p3_order, .int p3_least, .int p3_symmetries, .long p3_firstOrder, .long p3_seen, .int p3_stillEdges])), (h_p3_sketch, .inr (6, [.ref h_p3_sketch_near, .ref h_p3_sketch_fans, .int p3_sketch_nodes, .int p3_sketch_darks, .long p3_sketch_colours])), (h_p3_sketch_fans, aJ T 6 p3_sketch_fans), (h_p3_sketch_near, aI T 6 p3_sketch_near), (h_t, .inr (5, [.int t_size, .int t_hasDark, .int t_words, .int t_ruleLines, .int t_endLines, .int t_most, .int t_bannedCircles, .int t_unlike, .int t_patterns, .ref h_t_patternNodes, .ref h_t_patternCodes, .int t_endsJoined, .int t_fewestEdges, .int t_mostEdges, .int t_least])), (h_t_patternCodes, aI T 2 t_patternCodes), (h_t_patternNodes, aI T 2 t_patternNodes)]) X [0, 1, 2, 3, 4, 5, 6] rfl rfl ?_
  refine x_iand X dX6_patternsKept_5 ?_
  refine x_istore (lv' := [(4, .int (p2 &&& r2)), (0, .ref h_t), (1, .int p1), (2, .int p2), (3, .ref h_p3)]) X dX6_patternsKept_6 (by decide) rfl ?_
  refine x_iconst (v := 0) X dX6_patternsKept_8 (by decide) ?_
  refine x_istore (lv' := [(5, .int (0 : Int32)), (4, .int (p2 &&& r2)), (0, .ref h_t), (1, .int p1), (2, .int p2), (3, .ref h_p3)]) X dX6_patternsKept_9 (by decide) rfl ?_
  obtain ⟨n11, h⟩ := h
  exact x_sub X [2, 3, 5, 1, 0] rfl (k11 n11 p1 (p2 &&& r2) (0 : Int32) p3_allBits p3_firstOrder p3_isBeaten p3_isStudy p3_isTest p3_least p3_nodes p3_order p3_seen p3_stillEdges p3_symmetries p3_sketch_colours p3_sketch_darks p3_sketch_nodes p3_sketch_fans p3_sketch_near h)
theorem dX6_shapeKept_0 : decode cX6_shapeKept 0 = .ok (.aload_n 3, 1) := by decide +kernel
theorem dX6_shapeKept_1 : decode cX6_shapeKept 1 = .ok (.iload_n 1, 1) := by decide +kernel
theorem dX6_shapeKept_2 : decode cX6_shapeKept 2 = .ok (.iload_n 2, 1) := by decide +kernel
theorem dX6_shapeKept_3 : decode cX6_shapeKept 3 = .ok (.invokevirtual 74, 3) := by decide +kernel
theorem dX6_shapeKept_6 : decode cX6_shapeKept 6 = .ok (.aload_n 3, 1) := by decide +kernel
theorem dX6_shapeKept_7 : decode cX6_shapeKept 7 = .ok (.invokevirtual 80, 3) := by decide +kernel
theorem dX6_shapeKept_10 : decode cX6_shapeKept 10 = .ok (.aload_n 0, 1) := by decide +kernel
theorem dX6_shapeKept_11 : decode cX6_shapeKept 11 = .ok (.getfield 38, 3) := by decide +kernel
theorem dX6_shapeKept_14 : decode cX6_shapeKept 14 = .ok (.if_icmp .gt 40, 3) := by decide +kernel
theorem dX6_shapeKept_17 : decode cX6_shapeKept 17 = .ok (.aload_n 0, 1) := by decide +kernel
theorem dX6_shapeKept_18 : decode cX6_shapeKept 18 = .ok (.getfield 44, 3) := by decide +kernel
theorem dX6_shapeKept_21 : decode cX6_shapeKept 21 = .ok (.ifCond .eq 10, 3) := by decide +kernel
theorem dX6_shapeKept_24 : decode cX6_shapeKept 24 = .ok (.aload_n 3, 1) := by decide +kernel
theorem dX6_shapeKept_25 : decode cX6_shapeKept 25 = .ok (.invokevirtual 84, 3) := by decide +kernel
theorem dX6_shapeKept_28 : decode cX6_shapeKept 28 = .ok (.ifCond .ne 26, 3) := by decide +kernel
theorem dX6_shapeKept_31 : decode cX6_shapeKept 31 = .ok (.aload_n 0, 1) := by decide +kernel
theorem dX6_shapeKept_32 : decode cX6_shapeKept 32 = .ok (.getfield 41, 3) := by decide +kernel
theorem dX6_shapeKept_35 : decode cX6_shapeKept 35 = .ok (.ifCond .eq 15, 3) := by decide +kernel
theorem dX6_shapeKept_38 : decode cX6_shapeKept 38 = .ok (.aload_n 3, 1) := by decide +kernel
theorem dX6_shapeKept_39 : decode cX6_shapeKept 39 = .ok (.invokevirtual 88, 3) := by decide +kernel
theorem dX6_shapeKept_42 : decode cX6_shapeKept 42 = .ok (.aload_n 0, 1) := by decide +kernel
theorem dX6_shapeKept_43 : decode cX6_shapeKept 43 = .ok (.getfield 41, 3) := by decide +kernel
theorem dX6_shapeKept_46 : decode cX6_shapeKept 46 = .ok (.iand, 1) := by decide +kernel
theorem dX6_shapeKept_47 : decode cX6_shapeKept 47 = .ok (.ifCond .ne 7, 3) := by decide +kernel
theorem dX6_shapeKept_50 : decode cX6_shapeKept 50 = .ok (.iconst 1, 1) := by decide +kernel
theorem dX6_shapeKept_51 : decode cX6_shapeKept 51 = .ok (.goto 4, 3) := by decide +kernel
theorem dX6_shapeKept_54 : decode cX6_shapeKept 54 = .ok (.iconst 0, 1) := by decide +kernel
theorem dX6_shapeKept_55 : decode cX6_shapeKept 55 = .ok (.ireturn, 1) := by decide +kernel
set_option maxHeartbeats 4000000 in
set_option maxRecDepth 100000 in
theorem c_X6_shapeKept (l : Launch) (D : eD) (T : Nat → ClassId) (h_p3 h_p3_near h_p3_fans h_t h_t_patternNodes h_t_patternCodes : Nat) (p3_colours : Int64) (p3_darks : Int32) (p3_nodes : Int32) (p3_fans : Nat → Int64) (p3_near : Nat → Int32) (t_bannedCircles : Int32) (t_endLines : Int32) (t_endsJoined : Int32) (t_fewestEdges : Int32) (t_hasDark : Int32) (t_least : Int32) (t_most : Int32) (t_mostEdges : Int32) (t_patterns : Int32) (t_ruleLines : Int32) (t_size : Int32) (t_unlike : Int32) (t_words : Int32) (p1 : Int32) (p2 : Int32) (post : Int32 → Int64 → Int32 → Int32 → (Nat → Int64) → (Nat → Int32) → Prop) (h : F_X6_shapeKept t_bannedCircles t_most t_unlike p3_colours p3_darks p3_nodes p3_fans p3_near p1 p2 post) : cI l D T yX6_shapeKept cX6_shapeKept 4 (some .boolean) 23 569 0 0 [.ref h_t, .int p1, .int p2, .ref h_p3] [(h_p3, .inr (6, [.ref h_p3_near, .ref h_p3_fans, .int p3_nodes, .int p3_darks, .long p3_colours])), (h_p3_fans, aJ T 6 p3_fans), (h_p3_near, aI T 6 p3_near), (h_t, .inr (5, [.int t_size, .int t_hasDark, .int t_words, .int t_ruleLines, .int t_endLines, .int t_most, .int t_bannedCircles, .int t_unlike, .int t_patterns, .ref h_t_patternNodes, .ref h_t_patternCodes, .int t_endsJoined, .int t_fewestEdges, .int t_mostEdges, .int t_least]))] (fun r w1 => ∃ (p3_colours1 : Int64) (p3_darks1 : Int32) (p3_nodes1 : Int32) (p3_fans1 : Nat → Int64) (p3_near1 : Nat → Int32), w1 = [(h_p3, .inr (6, [.ref h_p3_near, .ref h_p3_fans, .int p3_nodes1, .int p3_darks1, .long p3_colours1])), (h_p3_fans, aJ T 6 p3_fans1), (h_p3_near, aI T 6 p3_near1), (h_t, .inr (5, [.int t_size, .int t_hasDark, .int t_words, .int t_ruleLines, .int t_endLines, .int t_most, .int t_bannedCircles, .int t_unlike, .int t_patterns, .ref h_t_patternNodes, .ref h_t_patternCodes, .int t_endsJoined, .int t_fewestEdges, .int t_mostEdges, .int t_least]))] ∧ post r p3_colours1 p3_darks1 p3_nodes1 p3_fans1 p3_near1) := by
  refine xI_of (ty := .boolean) (by decide +kernel) (Nat.le_of_ble_eq_true rfl) rfl ?_
  intro G X hret
  change G 0 0 0 [(0, .ref h_t), (1, .int p1), (2, .int p2), (3, .ref h_p3)] [] [(h_p3, .inr (6, [.ref h_p3_near, .ref h_p3_fans, .int p3_nodes, .int p3_darks, .long p3_colours])), (h_p3_fans, aJ T 6 p3_fans), (h_p3_near, aI T 6 p3_near), (h_t, .inr (5, [.int t_size, .int t_hasDark, .int t_words, .int t_ruleLines, .int t_endLines, .int t_most, .int t_bannedCircles, .int t_unlike, .int t_patterns, .ref h_t_patternNodes, .ref h_t_patternCodes, .int t_endsJoined, .int t_fewestEdges, .int t_mostEdges, .int t_least]))]
  unfold F_X6_shapeKept at h
  have k55 : ∀ (s0 : Int32) (p3_colours : Int64) (p3_darks : Int32) (p3_nodes : Int32) (p3_fans : Nat → Int64) (p3_near : Nat → Int32), F_X6_shapeKept_55 t_bannedCircles t_most t_unlike post s0 p3_colours p3_darks p3_nodes p3_fans p3_near → G 0 0 55 [] [.int s0] [(h_p3, .inr (6, [.ref h_p3_near, .ref h_p3_fans, .int p3_nodes, .int p3_darks, .long p3_colours])), (h_p3_fans, aJ T 6 p3_fans), (h_p3_near, aI T 6 p3_near), (h_t, .inr (5, [.int t_size, .int t_hasDark, .int t_words, .int t_ruleLines, .int t_endLines, .int t_most, .int t_bannedCircles, .int t_unlike, .int t_patterns, .ref h_t_patternNodes, .ref h_t_patternCodes, .int t_endsJoined, .int t_fewestEdges, .int t_mostEdges, .int t_least]))] := by
    intro s0 p3_colours p3_darks p3_nodes p3_fans p3_near h
    unfold F_X6_shapeKept_55 at h
    obtain ⟨hz, h⟩ := h
    exact hret _ _ _ _ dX6_shapeKept_55 (e_nz hz) ⟨p3_colours, p3_darks, p3_nodes, p3_fans, p3_near, rfl, h⟩
  have k54 : ∀ (p3_colours : Int64) (p3_darks : Int32) (p3_nodes : Int32) (p3_fans : Nat → Int64) (p3_near : Nat → Int32), F_X6_shapeKept_54 t_bannedCircles t_most t_unlike post (fun s0 p3_colours p3_darks p3_nodes p3_fans p3_near => F_X6_shapeKept_55 t_bannedCircles t_most t_unlike post s0 p3_colours p3_darks p3_nodes p3_fans p3_near) p3_colours p3_darks p3_nodes p3_fans p3_near → G 0 0 54 [] [] [(h_p3, .inr (6, [.ref h_p3_near, .ref h_p3_fans, .int p3_nodes, .int p3_darks, .long p3_colours])), (h_p3_fans, aJ T 6 p3_fans), (h_p3_near, aI T 6 p3_near), (h_t, .inr (5, [.int t_size, .int t_hasDark, .int t_words, .int t_ruleLines, .int t_endLines, .int t_most, .int t_bannedCircles, .int t_unlike, .int t_patterns, .ref h_t_patternNodes, .ref h_t_patternCodes, .int t_endsJoined, .int t_fewestEdges, .int t_mostEdges, .int t_least]))] := by
    intro p3_colours p3_darks p3_nodes p3_fans p3_near h
    unfold F_X6_shapeKept_54 at h
    refine x_iconst (v := 0) X dX6_shapeKept_54 (by decide) ?_
    exact x_sub X [] rfl (k55 (0 : Int32) p3_colours p3_darks p3_nodes p3_fans p3_near h)
  have k31 : ∀ (p3_colours : Int64) (p3_darks : Int32) (p3_nodes : Int32) (p3_fans : Nat → Int64) (p3_near : Nat → Int32), F_X6_shapeKept_31 t_bannedCircles t_most t_unlike post (fun p3_colours p3_darks p3_nodes p3_fans p3_near => F_X6_shapeKept_54 t_bannedCircles t_most t_unlike post (fun s0 p3_colours p3_darks p3_nodes p3_fans p3_near => F_X6_shapeKept_55 t_bannedCircles t_most t_unlike post s0 p3_colours p3_darks p3_nodes p3_fans p3_near) p3_colours p3_darks p3_nodes p3_fans p3_near) (fun s0 p3_colours p3_darks p3_nodes p3_fans p3_near => F_X6_shapeKept_55 t_bannedCircles t_most t_unlike post s0 p3_colours p3_darks p3_nodes p3_fans p3_near) p3_colours p3_darks p3_nodes p3_fans p3_near → G 0 0 31 [(0, .ref h_t), (3, .ref h_p3)] [] [(h_p3, .inr (6, [.ref h_p3_near, .ref h_p3_fans, .int p3_nodes, .int p3_darks, .long p3_colours])), (h_p3_fans, aJ T 6 p3_fans), (h_p3_near, aI T 6 p3_near), (h_t, .inr (5, [.int t_size, .int t_hasDark, .int t_words, .int t_ruleLines, .int t_endLines, .int t_most, .int t_bannedCircles, .int t_unlike, .int t_patterns, .ref h_t_patternNodes, .ref h_t_patternCodes, .int t_endsJoined, .int t_fewestEdges, .int t_mostEdges, .int t_least]))] := by
    intro p3_colours p3_darks p3_nodes p3_fans p3_near h
    unfold F_X6_shapeKept_31 at h
    have k50 : ∀ (p3_colours : Int64) (p3_darks : Int32) (p3_nodes : Int32) (p3_fans : Nat → Int64) (p3_near : Nat → Int32), F_X6_shapeKept_50 t_bannedCircles t_most t_unlike post (fun s0 p3_colours p3_darks p3_nodes p3_fans p3_near => F_X6_shapeKept_55 t_bannedCircles t_most t_unlike post s0 p3_colours p3_darks p3_nodes p3_fans p3_near) p3_colours p3_darks p3_nodes p3_fans p3_near → G 0 0 50 [] [] [(h_p3, .inr (6, [.ref h_p3_near, .ref h_p3_fans, .int p3_nodes, .int p3_darks, .long p3_colours])), (h_p3_fans, aJ T 6 p3_fans), (h_p3_near, aI T 6 p3_near), (h_t, .inr (5, [.int t_size, .int t_hasDark, .int t_words, .int t_ruleLines, .int t_endLines, .int t_most, .int t_bannedCircles, .int t_unlike, .int t_patterns, .ref h_t_patternNodes, .ref h_t_patternCodes, .int t_endsJoined, .int t_fewestEdges, .int t_mostEdges, .int t_least]))] := by
      intro p3_colours p3_darks p3_nodes p3_fans p3_near h
      unfold F_X6_shapeKept_50 at h
      refine x_iconst (v := 1) X dX6_shapeKept_50 (by decide) ?_
      refine x_goto (tgt := 55) X dX6_shapeKept_51 (by decide) ?_
      exact x_sub X [] rfl (k55 (1 : Int32) p3_colours p3_darks p3_nodes p3_fans p3_near h)
    refine x_aload_n X dX6_shapeKept_31 0 rfl ?_
    refine x_get X inGX6 6 (by decide) rfl tw_89 dX6_shapeKept_32 rfl 3 rfl rfl ?_
    refine x_if_eq (tgt := 50) X dX6_shapeKept_35 (by decide) (fun hc => ?_) (fun hc => ?_)
    · have h := h.1 hc
      exact x_sub X [] rfl (k50 p3_colours p3_darks p3_nodes p3_fans p3_near h)
    · have h := h.2 hc
      refine x_aload_n X dX6_shapeKept_38 1 rfl ?_
      refine x_callVI (av := []) (st := []) (wr := [(h_p3_fans, aJ T 6 p3_fans), (h_t, .inr (5, [.int t_size, .int t_hasDark, .int t_words, .int t_ruleLines, .int t_endLines, .int t_most, .int t_bannedCircles, .int t_unlike, .int t_patterns, .ref h_t_patternNodes, .ref h_t_patternCodes, .int t_endsJoined, .int t_fewestEdges, .int t_mostEdges, .int t_least]))]) X (c_X7_circles l D T h_p3 h_p3_near h_p3_fans p3_colours p3_darks p3_nodes p3_near _ h) yk_X7_circles tw_410 dX6_shapeKept_39 0 rfl rfl [0, 2] [1, 3] rfl rfl rfl rfl (by decide) rfl rfl (Nat.le_of_ble_eq_true rfl) (Nat.le_of_ble_eq_true rfl) (Nat.le_of_ble_eq_true rfl) (Nat.zero_le _) (Nat.zero_le _) (fun r39 w1 hw => ?_)
      obtain ⟨rfl, h⟩ := hw
      refine x_perm (ws2 := [(h_p3, .inr (6, [.ref h_p3_near, .ref h_p3_fans, .int p3_nodes, .int p3_darks, .long p3_colours])), (h_p3_fans, aJ T 6 p3_fans), (h_p3_near, aI T 6 p3_near), (h_t, .inr (5, [.int t_size, .int t_hasDark, .int t_words, .int t_ruleLines, .int t_endLines, .int t_most, .int t_bannedCircles, .int t_unlike, .int t_patterns, .ref h_t_patternNodes, .ref h_t_patternCodes, .int t_endsJoined, .int t_fewestEdges, .int t_mostEdges, .int t_least]))]) X [2, 0, 3, 1] rfl rfl ?_
      refine x_aload_n X dX6_shapeKept_42 0 rfl ?_
      refine x_get X inGX6 6 (by decide) rfl tw_89 dX6_shapeKept_43 rfl 3 rfl rfl ?_
      refine x_iand X dX6_shapeKept_46 ?_
      refine x_if_ne (tgt := 54) X dX6_shapeKept_47 (by decide) (fun hc => ?_) (fun hc => ?_)
      · have h := h.1 hc
        exact x_sub X [] rfl (k54 p3_colours p3_darks p3_nodes p3_fans p3_near h)
      · have h := h.2 hc
        exact x_sub X [] rfl (k50 p3_colours p3_darks p3_nodes p3_fans p3_near h)
  refine x_aload_n X dX6_shapeKept_0 3 rfl ?_
  refine x_iload_n X dX6_shapeKept_1 1 rfl ?_
  refine x_iload_n X dX6_shapeKept_2 2 rfl ?_
  refine x_callVV (av := [.int p1, .int p2]) (st := []) (wr := [(h_t, .inr (5, [.int t_size, .int t_hasDark, .int t_words, .int t_ruleLines, .int t_endLines, .int t_most, .int t_bannedCircles, .int t_unlike, .int t_patterns, .ref h_t_patternNodes, .ref h_t_patternCodes, .int t_endsJoined, .int t_fewestEdges, .int t_mostEdges, .int t_least]))]) X (c_X7_draw l D T h_p3 h_p3_near h_p3_fans p3_colours p3_darks p3_nodes p3_fans p3_near p1 p2 _ h) yk_X7_draw tw_388 dX6_shapeKept_3 0 rfl rfl [0, 1, 2] [3] rfl rfl rfl rfl (by decide) rfl rfl (Nat.le_of_ble_eq_true rfl) (Nat.le_of_ble_eq_true rfl) (Nat.le_of_ble_eq_true rfl) (Nat.zero_le _) (Nat.zero_le _) (fun w1 hw => ?_)
  obtain ⟨p3_colours_3, p3_darks_3, p3_nodes_3, p3_fans_3, p3_near_3, rfl, h⟩ := hw
  refine x_perm (ws2 := [(h_p3, .inr (6, [.ref h_p3_near, .ref h_p3_fans, .int p3_nodes_3, .int p3_darks_3, .long p3_colours_3])), (h_p3_fans, aJ T 6 p3_fans_3), (h_p3_near, aI T 6 p3_near_3), (h_t, .inr (5, [.int t_size, .int t_hasDark, .int t_words, .int t_ruleLines, .int t_endLines, .int t_most, .int t_bannedCircles, .int t_unlike, .int t_patterns, .ref h_t_patternNodes, .ref h_t_patternCodes, .int t_endsJoined, .int t_fewestEdges, .int t_mostEdges, .int t_least]))]) X [1, 2, 3, 0] rfl rfl ?_
  refine x_aload_n X dX6_shapeKept_6 3 rfl ?_
  refine x_callVI (av := []) (st := []) (wr := [(h_p3_fans, aJ T 6 p3_fans_3), (h_t, .inr (5, [.int t_size, .int t_hasDark, .int t_words, .int t_ruleLines, .int t_endLines, .int t_most, .int t_bannedCircles, .int t_unlike, .int t_patterns, .ref h_t_patternNodes, .ref h_t_patternCodes, .int t_endsJoined, .int t_fewestEdges, .int t_mostEdges, .int t_least]))]) X (c_X7_mostNear l D T h_p3 h_p3_near h_p3_fans p3_colours_3 p3_darks_3 p3_nodes_3 p3_near_3 _ h) yk_X7_mostNear tw_389 dX6_shapeKept_7 0 rfl rfl [0, 2] [1, 3] rfl rfl rfl rfl (by decide) rfl rfl (Nat.le_of_ble_eq_true rfl) (Nat.le_of_ble_eq_true rfl) (Nat.le_of_ble_eq_true rfl) (Nat.zero_le _) (Nat.zero_le _) (fun r7 w1 hw => ?_)
  obtain ⟨rfl, h⟩ := hw
  refine x_perm (ws2 := [(h_p3, .inr (6, [.ref h_p3_near, .ref h_p3_fans, .int p3_nodes_3, .int p3_darks_3, .long p3_colours_3])), (h_p3_fans, aJ T 6 p3_fans_3), (h_p3_near, aI T 6 p3_near_3), (h_t, .inr (5, [.int t_size, .int t_hasDark, .int t_words, .int t_ruleLines, .int t_endLines, .int t_most, .int t_bannedCircles, .int t_unlike, .int t_patterns, .ref h_t_patternNodes, .ref h_t_patternCodes, .int t_endsJoined, .int t_fewestEdges, .int t_mostEdges, .int t_least]))]) X [2, 0, 3, 1] rfl rfl ?_
  refine x_aload_n X dX6_shapeKept_10 0 rfl ?_
  refine x_get X inGX6 5 (by decide) rfl tw_87 dX6_shapeKept_11 rfl 3 rfl rfl ?_
  refine x_icmp_gt (tgt := 54) X dX6_shapeKept_14 (by decide) (fun hc => ?_) (fun hc => ?_)
  · have h := h.1 hc
    exact x_sub X [] rfl (k54 p3_colours_3 p3_darks_3 p3_nodes_3 p3_fans_3 p3_near_3 h)
  · have h := h.2 hc
    refine x_aload_n X dX6_shapeKept_17 0 rfl ?_
    refine x_get X inGX6 7 (by decide) rfl tw_91 dX6_shapeKept_18 rfl 3 rfl rfl ?_
    refine x_if_eq (tgt := 31) X dX6_shapeKept_21 (by decide) (fun hc => ?_) (fun hc => ?_)
    · have h := h.1 hc
      exact x_sub X [0, 3] rfl (k31 p3_colours_3 p3_darks_3 p3_nodes_3 p3_fans_3 p3_near_3 h)
    · have h := h.2 hc
      refine x_aload_n X dX6_shapeKept_24 3 rfl ?_
      refine x_callVI (av := []) (st := []) (wr := [(h_p3_fans, aJ T 6 p3_fans_3), (h_t, .inr (5, [.int t_size, .int t_hasDark, .int t_words, .int t_ruleLines, .int t_endLines, .int t_most, .int t_bannedCircles, .int t_unlike, .int t_patterns, .ref h_t_patternNodes, .ref h_t_patternCodes, .int t_endsJoined, .int t_fewestEdges, .int t_mostEdges, .int t_least]))]) X (c_X7_joinsOneColour l D T h_p3 h_p3_near h_p3_fans p3_colours_3 p3_darks_3 p3_nodes_3 p3_near_3 _ h) yk_X7_joinsOneColour tw_406 dX6_shapeKept_25 0 rfl rfl [0, 2] [1, 3] rfl rfl rfl rfl (by decide) rfl rfl (Nat.le_of_ble_eq_true rfl) (Nat.le_of_ble_eq_true rfl) (Nat.le_of_ble_eq_true rfl) (Nat.zero_le _) (Nat.zero_le _) (fun r25 w1 hw => ?_)
      obtain ⟨rfl, h⟩ := hw
      refine x_perm (ws2 := [(h_p3, .inr (6, [.ref h_p3_near, .ref h_p3_fans, .int p3_nodes_3, .int p3_darks_3, .long p3_colours_3])), (h_p3_fans, aJ T 6 p3_fans_3), (h_p3_near, aI T 6 p3_near_3), (h_t, .inr (5, [.int t_size, .int t_hasDark, .int t_words, .int t_ruleLines, .int t_endLines, .int t_most, .int t_bannedCircles, .int t_unlike, .int t_patterns, .ref h_t_patternNodes, .ref h_t_patternCodes, .int t_endsJoined, .int t_fewestEdges, .int t_mostEdges, .int t_least]))]) X [2, 0, 3, 1] rfl rfl ?_
      refine x_if_ne (tgt := 54) X dX6_shapeKept_28 (by decide) (fun hc => ?_) (fun hc => ?_)
      · have h := h.1 hc
        exact x_sub X [] rfl (k54 p3_colours_3 p3_darks_3 p3_nodes_3 p3_fans_3 p3_near_3 h)
      · have h := h.2 hc
        exact x_sub X [0, 3] rfl (k31 p3_colours_3 p3_darks_3 p3_nodes_3 p3_fans_3 p3_near_3 h)
theorem dX6_clear_0 : decode cX6_clear 0 = .ok (.aload_n 0, 1) := by decide +kernel
theorem dX6_clear_1 : decode cX6_clear 1 = .ok (.iconst 1, 1) := by decide +kernel
theorem dX6_clear_2 : decode cX6_clear 2 = .ok (.putfield 21, 3) := by decide +kernel
theorem dX6_clear_5 : decode cX6_clear 5 = .ok (.aload_n 0, 1) := by decide +kernel
theorem dX6_clear_6 : decode cX6_clear 6 = .ok (.iconst 0, 1) := by decide +kernel
theorem dX6_clear_7 : decode cX6_clear 7 = .ok (.putfield 25, 3) := by decide +kernel
theorem dX6_clear_10 : decode cX6_clear 10 = .ok (.aload_n 0, 1) := by decide +kernel
theorem dX6_clear_11 : decode cX6_clear 11 = .ok (.iconst 0, 1) := by decide +kernel
theorem dX6_clear_12 : decode cX6_clear 12 = .ok (.putfield 29, 3) := by decide +kernel
theorem dX6_clear_15 : decode cX6_clear 15 = .ok (.aload_n 0, 1) := by decide +kernel
theorem dX6_clear_16 : decode cX6_clear 16 = .ok (.iconst 0, 1) := by decide +kernel
theorem dX6_clear_17 : decode cX6_clear 17 = .ok (.putfield 32, 3) := by decide +kernel
theorem dX6_clear_20 : decode cX6_clear 20 = .ok (.aload_n 0, 1) := by decide +kernel
theorem dX6_clear_21 : decode cX6_clear 21 = .ok (.iconst 0, 1) := by decide +kernel
theorem dX6_clear_22 : decode cX6_clear 22 = .ok (.putfield 35, 3) := by decide +kernel
theorem dX6_clear_25 : decode cX6_clear 25 = .ok (.aload_n 0, 1) := by decide +kernel
theorem dX6_clear_26 : decode cX6_clear 26 = .ok (.iconst 5, 1) := by decide +kernel
theorem dX6_clear_27 : decode cX6_clear 27 = .ok (.putfield 38, 3) := by decide +kernel
theorem dX6_clear_30 : decode cX6_clear 30 = .ok (.aload_n 0, 1) := by decide +kernel
theorem dX6_clear_31 : decode cX6_clear 31 = .ok (.iconst 0, 1) := by decide +kernel
theorem dX6_clear_32 : decode cX6_clear 32 = .ok (.putfield 41, 3) := by decide +kernel
theorem dX6_clear_35 : decode cX6_clear 35 = .ok (.aload_n 0, 1) := by decide +kernel
theorem dX6_clear_36 : decode cX6_clear 36 = .ok (.iconst 0, 1) := by decide +kernel
theorem dX6_clear_37 : decode cX6_clear 37 = .ok (.putfield 44, 3) := by decide +kernel
theorem dX6_clear_40 : decode cX6_clear 40 = .ok (.aload_n 0, 1) := by decide +kernel
theorem dX6_clear_41 : decode cX6_clear 41 = .ok (.iconst 0, 1) := by decide +kernel
theorem dX6_clear_42 : decode cX6_clear 42 = .ok (.putfield 47, 3) := by decide +kernel
theorem dX6_clear_45 : decode cX6_clear 45 = .ok (.aload_n 0, 1) := by decide +kernel
theorem dX6_clear_46 : decode cX6_clear 46 = .ok (.iconst 0, 1) := by decide +kernel
theorem dX6_clear_47 : decode cX6_clear 47 = .ok (.putfield 50, 3) := by decide +kernel
theorem dX6_clear_50 : decode cX6_clear 50 = .ok (.aload_n 0, 1) := by decide +kernel
theorem dX6_clear_51 : decode cX6_clear 51 = .ok (.iconst 0, 1) := by decide +kernel
theorem dX6_clear_52 : decode cX6_clear 52 = .ok (.putfield 53, 3) := by decide +kernel
theorem dX6_clear_55 : decode cX6_clear 55 = .ok (.aload_n 0, 1) := by decide +kernel
theorem dX6_clear_56 : decode cX6_clear 56 = .ok (.bipush 15, 2) := by decide +kernel
theorem dX6_clear_58 : decode cX6_clear 58 = .ok (.putfield 56, 3) := by decide +kernel
theorem dX6_clear_61 : decode cX6_clear 61 = .ok (.aload_n 0, 1) := by decide +kernel
theorem dX6_clear_62 : decode cX6_clear 62 = .ok (.iconst 0, 1) := by decide +kernel
theorem dX6_clear_63 : decode cX6_clear 63 = .ok (.putfield 59, 3) := by decide +kernel
theorem dX6_clear_66 : decode cX6_clear 66 = .ok (.return_, 1) := by decide +kernel
set_option maxHeartbeats 4000000 in
set_option maxRecDepth 100000 in
theorem c_X6_clear (l : Launch) (D : eD) (T : Nat → ClassId) (h_t h_t_patternNodes h_t_patternCodes : Nat) (t_bannedCircles : Int32) (t_endLines : Int32) (t_endsJoined : Int32) (t_fewestEdges : Int32) (t_hasDark : Int32) (t_least : Int32) (t_most : Int32) (t_mostEdges : Int32) (t_patterns : Int32) (t_ruleLines : Int32) (t_size : Int32) (t_unlike : Int32) (t_words : Int32) (post : Int32 → Int32 → Int32 → Int32 → Int32 → Int32 → Int32 → Int32 → Int32 → Int32 → Int32 → Int32 → Int32 → Prop) (h : F_X6_clear t_bannedCircles t_endLines t_endsJoined t_fewestEdges t_hasDark t_least t_most t_mostEdges t_patterns t_ruleLines t_size t_unlike t_words post) : cV l D T yX6_clear cX6_clear 1 none 0 0 0 0 [.ref h_t] [(h_t, .inr (5, [.int t_size, .int t_hasDark, .int t_words, .int t_ruleLines, .int t_endLines, .int t_most, .int t_bannedCircles, .int t_unlike, .int t_patterns, .ref h_t_patternNodes, .ref h_t_patternCodes, .int t_endsJoined, .int t_fewestEdges, .int t_mostEdges, .int t_least]))] (fun w1 => ∃ (t_bannedCircles1 : Int32) (t_endLines1 : Int32) (t_endsJoined1 : Int32) (t_fewestEdges1 : Int32) (t_hasDark1 : Int32) (t_least1 : Int32) (t_most1 : Int32) (t_mostEdges1 : Int32) (t_patterns1 : Int32) (t_ruleLines1 : Int32) (t_size1 : Int32) (t_unlike1 : Int32) (t_words1 : Int32), w1 = [(h_t, .inr (5, [.int t_size1, .int t_hasDark1, .int t_words1, .int t_ruleLines1, .int t_endLines1, .int t_most1, .int t_bannedCircles1, .int t_unlike1, .int t_patterns1, .ref h_t_patternNodes, .ref h_t_patternCodes, .int t_endsJoined1, .int t_fewestEdges1, .int t_mostEdges1, .int t_least1]))] ∧ post t_bannedCircles1 t_endLines1 t_endsJoined1 t_fewestEdges1 t_hasDark1 t_least1 t_most1 t_mostEdges1 t_patterns1 t_ruleLines1 t_size1 t_unlike1 t_words1) := by
  refine xV_of (by decide +kernel) (Nat.le_of_ble_eq_true rfl) rfl ?_
  intro G X hret
  change G 0 0 0 [(0, .ref h_t)] [] [(h_t, .inr (5, [.int t_size, .int t_hasDark, .int t_words, .int t_ruleLines, .int t_endLines, .int t_most, .int t_bannedCircles, .int t_unlike, .int t_patterns, .ref h_t_patternNodes, .ref h_t_patternCodes, .int t_endsJoined, .int t_fewestEdges, .int t_mostEdges, .int t_least]))]
  unfold F_X6_clear at h
  refine x_aload_n X dX6_clear_0 0 rfl ?_
  refine x_iconst (v := 1) X dX6_clear_1 (by decide) ?_
  refine x_put (ws' := [(h_t, .inr (5, [.int (1 : Int32), .int t_hasDark, .int t_words, .int t_ruleLines, .int t_endLines, .int t_most, .int t_bannedCircles, .int t_unlike, .int t_patterns, .ref h_t_patternNodes, .ref h_t_patternCodes, .int t_endsJoined, .int t_fewestEdges, .int t_mostEdges, .int t_least]))]) X inGX6 tyX6_ok nmX6 0 (by decide) rfl tw_72 dX6_clear_2 rfl rfl 0 rfl rfl rfl (Nat.le_of_ble_eq_true rfl) rfl ?_
  refine x_aload_n X dX6_clear_5 0 rfl ?_
  refine x_iconst (v := 0) X dX6_clear_6 (by decide) ?_
  obtain ⟨hz, h⟩ := h
  refine x_put (ws' := [(h_t, .inr (5, [.int (1 : Int32), .int (0 : Int32), .int t_words, .int t_ruleLines, .int t_endLines, .int t_most, .int t_bannedCircles, .int t_unlike, .int t_patterns, .ref h_t_patternNodes, .ref h_t_patternCodes, .int t_endsJoined, .int t_fewestEdges, .int t_mostEdges, .int t_least]))]) X inGX6 tyX6_ok nmX6 1 (by decide) rfl tw_76 dX6_clear_7 rfl rfl 0 rfl (e_nz hz) (e_fz hz) (Nat.le_of_ble_eq_true rfl) rfl ?_
  refine x_aload_n X dX6_clear_10 0 rfl ?_
  refine x_iconst (v := 0) X dX6_clear_11 (by decide) ?_
  refine x_put (ws' := [(h_t, .inr (5, [.int (1 : Int32), .int (0 : Int32), .int (0 : Int32), .int t_ruleLines, .int t_endLines, .int t_most, .int t_bannedCircles, .int t_unlike, .int t_patterns, .ref h_t_patternNodes, .ref h_t_patternCodes, .int t_endsJoined, .int t_fewestEdges, .int t_mostEdges, .int t_least]))]) X inGX6 tyX6_ok nmX6 2 (by decide) rfl tw_80 dX6_clear_12 rfl rfl 0 rfl rfl rfl (Nat.le_of_ble_eq_true rfl) rfl ?_
  refine x_aload_n X dX6_clear_15 0 rfl ?_
  refine x_iconst (v := 0) X dX6_clear_16 (by decide) ?_
  refine x_put (ws' := [(h_t, .inr (5, [.int (1 : Int32), .int (0 : Int32), .int (0 : Int32), .int (0 : Int32), .int t_endLines, .int t_most, .int t_bannedCircles, .int t_unlike, .int t_patterns, .ref h_t_patternNodes, .ref h_t_patternCodes, .int t_endsJoined, .int t_fewestEdges, .int t_mostEdges, .int t_least]))]) X inGX6 tyX6_ok nmX6 3 (by decide) rfl tw_81 dX6_clear_17 rfl rfl 0 rfl rfl rfl (Nat.le_of_ble_eq_true rfl) rfl ?_
  refine x_aload_n X dX6_clear_20 0 rfl ?_
  refine x_iconst (v := 0) X dX6_clear_21 (by decide) ?_
  refine x_put (ws' := [(h_t, .inr (5, [.int (1 : Int32), .int (0 : Int32), .int (0 : Int32), .int (0 : Int32), .int (0 : Int32), .int t_most, .int t_bannedCircles, .int t_unlike, .int t_patterns, .ref h_t_patternNodes, .ref h_t_patternCodes, .int t_endsJoined, .int t_fewestEdges, .int t_mostEdges, .int t_least]))]) X inGX6 tyX6_ok nmX6 4 (by decide) rfl tw_84 dX6_clear_22 rfl rfl 0 rfl rfl rfl (Nat.le_of_ble_eq_true rfl) rfl ?_
  refine x_aload_n X dX6_clear_25 0 rfl ?_
  refine x_iconst (v := 5) X dX6_clear_26 (by decide) ?_
  refine x_put (ws' := [(h_t, .inr (5, [.int (1 : Int32), .int (0 : Int32), .int (0 : Int32), .int (0 : Int32), .int (0 : Int32), .int (5 : Int32), .int t_bannedCircles, .int t_unlike, .int t_patterns, .ref h_t_patternNodes, .ref h_t_patternCodes, .int t_endsJoined, .int t_fewestEdges, .int t_mostEdges, .int t_least]))]) X inGX6 tyX6_ok nmX6 5 (by decide) rfl tw_87 dX6_clear_27 rfl rfl 0 rfl rfl rfl (Nat.le_of_ble_eq_true rfl) rfl ?_
  refine x_aload_n X dX6_clear_30 0 rfl ?_
  refine x_iconst (v := 0) X dX6_clear_31 (by decide) ?_
  refine x_put (ws' := [(h_t, .inr (5, [.int (1 : Int32), .int (0 : Int32), .int (0 : Int32), .int (0 : Int32), .int (0 : Int32), .int (5 : Int32), .int (0 : Int32), .int t_unlike, .int t_patterns, .ref h_t_patternNodes, .ref h_t_patternCodes, .int t_endsJoined, .int t_fewestEdges, .int t_mostEdges, .int t_least]))]) X inGX6 tyX6_ok nmX6 6 (by decide) rfl tw_89 dX6_clear_32 rfl rfl 0 rfl rfl rfl (Nat.le_of_ble_eq_true rfl) rfl ?_
  refine x_aload_n X dX6_clear_35 0 rfl ?_
  refine x_iconst (v := 0) X dX6_clear_36 (by decide) ?_
  obtain ⟨hz, h⟩ := h
  refine x_put (ws' := [(h_t, .inr (5, [.int (1 : Int32), .int (0 : Int32), .int (0 : Int32), .int (0 : Int32), .int (0 : Int32), .int (5 : Int32), .int (0 : Int32), .int (0 : Int32), .int t_patterns, .ref h_t_patternNodes, .ref h_t_patternCodes, .int t_endsJoined, .int t_fewestEdges, .int t_mostEdges, .int t_least]))]) X inGX6 tyX6_ok nmX6 7 (by decide) rfl tw_91 dX6_clear_37 rfl rfl 0 rfl (e_nz hz) (e_fz hz) (Nat.le_of_ble_eq_true rfl) rfl ?_
  refine x_aload_n X dX6_clear_40 0 rfl ?_
  refine x_iconst (v := 0) X dX6_clear_41 (by decide) ?_
  refine x_put (ws' := [(h_t, .inr (5, [.int (1 : Int32), .int (0 : Int32), .int (0 : Int32), .int (0 : Int32), .int (0 : Int32), .int (5 : Int32), .int (0 : Int32), .int (0 : Int32), .int (0 : Int32), .ref h_t_patternNodes, .ref h_t_patternCodes, .int t_endsJoined, .int t_fewestEdges, .int t_mostEdges, .int t_least]))]) X inGX6 tyX6_ok nmX6 8 (by decide) rfl tw_93 dX6_clear_42 rfl rfl 0 rfl rfl rfl (Nat.le_of_ble_eq_true rfl) rfl ?_
  refine x_aload_n X dX6_clear_45 0 rfl ?_
  refine x_iconst (v := 0) X dX6_clear_46 (by decide) ?_
  obtain ⟨hz, h⟩ := h
  refine x_put (ws' := [(h_t, .inr (5, [.int (1 : Int32), .int (0 : Int32), .int (0 : Int32), .int (0 : Int32), .int (0 : Int32), .int (5 : Int32), .int (0 : Int32), .int (0 : Int32), .int (0 : Int32), .ref h_t_patternNodes, .ref h_t_patternCodes, .int (0 : Int32), .int t_fewestEdges, .int t_mostEdges, .int t_least]))]) X inGX6 tyX6_ok nmX6 11 (by decide) rfl tw_96 dX6_clear_47 rfl rfl 0 rfl (e_nz hz) (e_fz hz) (Nat.le_of_ble_eq_true rfl) rfl ?_
  refine x_aload_n X dX6_clear_50 0 rfl ?_
  refine x_iconst (v := 0) X dX6_clear_51 (by decide) ?_
  refine x_put (ws' := [(h_t, .inr (5, [.int (1 : Int32), .int (0 : Int32), .int (0 : Int32), .int (0 : Int32), .int (0 : Int32), .int (5 : Int32), .int (0 : Int32), .int (0 : Int32), .int (0 : Int32), .ref h_t_patternNodes, .ref h_t_patternCodes, .int (0 : Int32), .int (0 : Int32), .int t_mostEdges, .int t_least]))]) X inGX6 tyX6_ok nmX6 12 (by decide) rfl tw_98 dX6_clear_52 rfl rfl 0 rfl rfl rfl (Nat.le_of_ble_eq_true rfl) rfl ?_
  refine x_aload_n X dX6_clear_55 0 rfl ?_
  refine x_bipush (v := 15) X dX6_clear_56 (by decide) ?_
  refine x_put (ws' := [(h_t, .inr (5, [.int (1 : Int32), .int (0 : Int32), .int (0 : Int32), .int (0 : Int32), .int (0 : Int32), .int (5 : Int32), .int (0 : Int32), .int (0 : Int32), .int (0 : Int32), .ref h_t_patternNodes, .ref h_t_patternCodes, .int (0 : Int32), .int (0 : Int32), .int (15 : Int32), .int t_least]))]) X inGX6 tyX6_ok nmX6 13 (by decide) rfl tw_100 dX6_clear_58 rfl rfl 0 rfl rfl rfl (Nat.le_of_ble_eq_true rfl) rfl ?_
  refine x_aload_n X dX6_clear_61 0 rfl ?_
  refine x_iconst (v := 0) X dX6_clear_62 (by decide) ?_
  refine x_put (ws' := [(h_t, .inr (5, [.int (1 : Int32), .int (0 : Int32), .int (0 : Int32), .int (0 : Int32), .int (0 : Int32), .int (5 : Int32), .int (0 : Int32), .int (0 : Int32), .int (0 : Int32), .ref h_t_patternNodes, .ref h_t_patternCodes, .int (0 : Int32), .int (0 : Int32), .int (15 : Int32), .int (0 : Int32)]))]) X inGX6 tyX6_ok nmX6 14 (by decide) rfl tw_102 dX6_clear_63 rfl rfl 0 rfl rfl rfl (Nat.le_of_ble_eq_true rfl) rfl ?_
  exact hret _ _ _ dX6_clear_66 ⟨(0 : Int32), (0 : Int32), (0 : Int32), (0 : Int32), (0 : Int32), (0 : Int32), (5 : Int32), (15 : Int32), (0 : Int32), (0 : Int32), (1 : Int32), (0 : Int32), (0 : Int32), rfl, h⟩
theorem dX6_copyFrom_0 : decode cX6_copyFrom 0 = .ok (.aload_n 0, 1) := by decide +kernel
theorem dX6_copyFrom_1 : decode cX6_copyFrom 1 = .ok (.aload_n 1, 1) := by decide +kernel
theorem dX6_copyFrom_2 : decode cX6_copyFrom 2 = .ok (.getfield 21, 3) := by decide +kernel
theorem dX6_copyFrom_5 : decode cX6_copyFrom 5 = .ok (.putfield 21, 3) := by decide +kernel
theorem dX6_copyFrom_8 : decode cX6_copyFrom 8 = .ok (.aload_n 0, 1) := by decide +kernel
theorem dX6_copyFrom_9 : decode cX6_copyFrom 9 = .ok (.aload_n 1, 1) := by decide +kernel
theorem dX6_copyFrom_10 : decode cX6_copyFrom 10 = .ok (.getfield 25, 3) := by decide +kernel
theorem dX6_copyFrom_13 : decode cX6_copyFrom 13 = .ok (.putfield 25, 3) := by decide +kernel
theorem dX6_copyFrom_16 : decode cX6_copyFrom 16 = .ok (.aload_n 0, 1) := by decide +kernel
theorem dX6_copyFrom_17 : decode cX6_copyFrom 17 = .ok (.aload_n 1, 1) := by decide +kernel
theorem dX6_copyFrom_18 : decode cX6_copyFrom 18 = .ok (.getfield 29, 3) := by decide +kernel
theorem dX6_copyFrom_21 : decode cX6_copyFrom 21 = .ok (.putfield 29, 3) := by decide +kernel
theorem dX6_copyFrom_24 : decode cX6_copyFrom 24 = .ok (.aload_n 0, 1) := by decide +kernel
theorem dX6_copyFrom_25 : decode cX6_copyFrom 25 = .ok (.aload_n 1, 1) := by decide +kernel
theorem dX6_copyFrom_26 : decode cX6_copyFrom 26 = .ok (.getfield 32, 3) := by decide +kernel
theorem dX6_copyFrom_29 : decode cX6_copyFrom 29 = .ok (.putfield 32, 3) := by decide +kernel
theorem dX6_copyFrom_32 : decode cX6_copyFrom 32 = .ok (.aload_n 0, 1) := by decide +kernel
theorem dX6_copyFrom_33 : decode cX6_copyFrom 33 = .ok (.aload_n 1, 1) := by decide +kernel
theorem dX6_copyFrom_34 : decode cX6_copyFrom 34 = .ok (.getfield 35, 3) := by decide +kernel
theorem dX6_copyFrom_37 : decode cX6_copyFrom 37 = .ok (.putfield 35, 3) := by decide +kernel
theorem dX6_copyFrom_40 : decode cX6_copyFrom 40 = .ok (.aload_n 0, 1) := by decide +kernel
theorem dX6_copyFrom_41 : decode cX6_copyFrom 41 = .ok (.aload_n 1, 1) := by decide +kernel
theorem dX6_copyFrom_42 : decode cX6_copyFrom 42 = .ok (.getfield 38, 3) := by decide +kernel
theorem dX6_copyFrom_45 : decode cX6_copyFrom 45 = .ok (.putfield 38, 3) := by decide +kernel
theorem dX6_copyFrom_48 : decode cX6_copyFrom 48 = .ok (.aload_n 0, 1) := by decide +kernel
theorem dX6_copyFrom_49 : decode cX6_copyFrom 49 = .ok (.aload_n 1, 1) := by decide +kernel
theorem dX6_copyFrom_50 : decode cX6_copyFrom 50 = .ok (.getfield 41, 3) := by decide +kernel
theorem dX6_copyFrom_53 : decode cX6_copyFrom 53 = .ok (.putfield 41, 3) := by decide +kernel
theorem dX6_copyFrom_56 : decode cX6_copyFrom 56 = .ok (.aload_n 0, 1) := by decide +kernel
theorem dX6_copyFrom_57 : decode cX6_copyFrom 57 = .ok (.aload_n 1, 1) := by decide +kernel
theorem dX6_copyFrom_58 : decode cX6_copyFrom 58 = .ok (.getfield 44, 3) := by decide +kernel
theorem dX6_copyFrom_61 : decode cX6_copyFrom 61 = .ok (.putfield 44, 3) := by decide +kernel
theorem dX6_copyFrom_64 : decode cX6_copyFrom 64 = .ok (.aload_n 0, 1) := by decide +kernel
theorem dX6_copyFrom_65 : decode cX6_copyFrom 65 = .ok (.aload_n 1, 1) := by decide +kernel
theorem dX6_copyFrom_66 : decode cX6_copyFrom 66 = .ok (.getfield 47, 3) := by decide +kernel
theorem dX6_copyFrom_69 : decode cX6_copyFrom 69 = .ok (.putfield 47, 3) := by decide +kernel
theorem dX6_copyFrom_72 : decode cX6_copyFrom 72 = .ok (.aload_n 1, 1) := by decide +kernel
theorem dX6_copyFrom_73 : decode cX6_copyFrom 73 = .ok (.getfield 11, 3) := by decide +kernel
theorem dX6_copyFrom_76 : decode cX6_copyFrom 76 = .ok (.iconst 0, 1) := by decide +kernel
theorem dX6_copyFrom_77 : decode cX6_copyFrom 77 = .ok (.aload_n 0, 1) := by decide +kernel
theorem dX6_copyFrom_78 : decode cX6_copyFrom 78 = .ok (.getfield 11, 3) := by decide +kernel
theorem dX6_copyFrom_81 : decode cX6_copyFrom 81 = .ok (.iconst 0, 1) := by decide +kernel
theorem dX6_copyFrom_82 : decode cX6_copyFrom 82 = .ok (.iconst 2, 1) := by decide +kernel
theorem dX6_copyFrom_83 : decode cX6_copyFrom 83 = .ok (.invokestatic 62, 3) := by decide +kernel
theorem dX6_copyFrom_86 : decode cX6_copyFrom 86 = .ok (.aload_n 1, 1) := by decide +kernel
theorem dX6_copyFrom_87 : decode cX6_copyFrom 87 = .ok (.getfield 15, 3) := by decide +kernel
theorem dX6_copyFrom_90 : decode cX6_copyFrom 90 = .ok (.iconst 0, 1) := by decide +kernel
theorem dX6_copyFrom_91 : decode cX6_copyFrom 91 = .ok (.aload_n 0, 1) := by decide +kernel
theorem dX6_copyFrom_92 : decode cX6_copyFrom 92 = .ok (.getfield 15, 3) := by decide +kernel
theorem dX6_copyFrom_95 : decode cX6_copyFrom 95 = .ok (.iconst 0, 1) := by decide +kernel
theorem dX6_copyFrom_96 : decode cX6_copyFrom 96 = .ok (.iconst 2, 1) := by decide +kernel
theorem dX6_copyFrom_97 : decode cX6_copyFrom 97 = .ok (.invokestatic 62, 3) := by decide +kernel
theorem dX6_copyFrom_100 : decode cX6_copyFrom 100 = .ok (.aload_n 0, 1) := by decide +kernel
theorem dX6_copyFrom_101 : decode cX6_copyFrom 101 = .ok (.aload_n 1, 1) := by decide +kernel
theorem dX6_copyFrom_102 : decode cX6_copyFrom 102 = .ok (.getfield 50, 3) := by decide +kernel
theorem dX6_copyFrom_105 : decode cX6_copyFrom 105 = .ok (.putfield 50, 3) := by decide +kernel
theorem dX6_copyFrom_108 : decode cX6_copyFrom 108 = .ok (.aload_n 0, 1) := by decide +kernel
theorem dX6_copyFrom_109 : decode cX6_copyFrom 109 = .ok (.aload_n 1, 1) := by decide +kernel
theorem dX6_copyFrom_110 : decode cX6_copyFrom 110 = .ok (.getfield 53, 3) := by decide +kernel
theorem dX6_copyFrom_113 : decode cX6_copyFrom 113 = .ok (.putfield 53, 3) := by decide +kernel
theorem dX6_copyFrom_116 : decode cX6_copyFrom 116 = .ok (.aload_n 0, 1) := by decide +kernel
theorem dX6_copyFrom_117 : decode cX6_copyFrom 117 = .ok (.aload_n 1, 1) := by decide +kernel
theorem dX6_copyFrom_118 : decode cX6_copyFrom 118 = .ok (.getfield 56, 3) := by decide +kernel
theorem dX6_copyFrom_121 : decode cX6_copyFrom 121 = .ok (.putfield 56, 3) := by decide +kernel
theorem dX6_copyFrom_124 : decode cX6_copyFrom 124 = .ok (.aload_n 0, 1) := by decide +kernel
theorem dX6_copyFrom_125 : decode cX6_copyFrom 125 = .ok (.aload_n 1, 1) := by decide +kernel
theorem dX6_copyFrom_126 : decode cX6_copyFrom 126 = .ok (.getfield 59, 3) := by decide +kernel
theorem dX6_copyFrom_129 : decode cX6_copyFrom 129 = .ok (.putfield 59, 3) := by decide +kernel
theorem dX6_copyFrom_132 : decode cX6_copyFrom 132 = .ok (.return_, 1) := by decide +kernel
set_option maxHeartbeats 4000000 in
set_option maxRecDepth 100000 in
theorem c_X6_copyFrom (l : Launch) (D : eD) (T : Nat → ClassId) (h_p1 h_p1_patternNodes h_p1_patternCodes h_t h_t_patternNodes h_t_patternCodes : Nat) (p1_bannedCircles : Int32) (p1_endLines : Int32) (p1_endsJoined : Int32) (p1_fewestEdges : Int32) (p1_hasDark : Int32) (p1_least : Int32) (p1_most : Int32) (p1_mostEdges : Int32) (p1_patterns : Int32) (p1_ruleLines : Int32) (p1_size : Int32) (p1_unlike : Int32) (p1_words : Int32) (p1_patternCodes : Nat → Int32) (p1_patternNodes : Nat → Int32) (t_bannedCircles : Int32) (t_endLines : Int32) (t_endsJoined : Int32) (t_fewestEdges : Int32) (t_hasDark : Int32) (t_least : Int32) (t_most : Int32) (t_mostEdges : Int32) (t_patterns : Int32) (t_ruleLines : Int32) (t_size : Int32) (t_unlike : Int32) (t_words : Int32) (t_patternCodes : Nat → Int32) (t_patternNodes : Nat → Int32) (post : Int32 → Int32 → Int32 → Int32 → Int32 → Int32 → Int32 → Int32 → Int32 → Int32 → Int32 → Int32 → Int32 → (Nat → Int32) → (Nat → Int32) → Prop) (h : F_X6_copyFrom p1_bannedCircles p1_endLines p1_endsJoined p1_fewestEdges p1_hasDark p1_least p1_most p1_mostEdges p1_patterns p1_ruleLines p1_size p1_unlike p1_words p1_patternCodes p1_patternNodes t_bannedCircles t_endLines t_endsJoined t_fewestEdges t_hasDark t_least t_most t_mostEdges t_patterns t_ruleLines t_size t_unlike t_words t_patternCodes t_patternNodes post) : cV l D T yX6_copyFrom cX6_copyFrom 2 none 1 50 0 0 [.ref h_t, .ref h_p1] [(h_p1, .inr (5, [.int p1_size, .int p1_hasDark, .int p1_words, .int p1_ruleLines, .int p1_endLines, .int p1_most, .int p1_bannedCircles, .int p1_unlike, .int p1_patterns, .ref h_p1_patternNodes, .ref h_p1_patternCodes, .int p1_endsJoined, .int p1_fewestEdges, .int p1_mostEdges, .int p1_least])), (h_p1_patternCodes, aI T 2 p1_patternCodes), (h_p1_patternNodes, aI T 2 p1_patternNodes), (h_t, .inr (5, [.int t_size, .int t_hasDark, .int t_words, .int t_ruleLines, .int t_endLines, .int t_most, .int t_bannedCircles, .int t_unlike, .int t_patterns, .ref h_t_patternNodes, .ref h_t_patternCodes, .int t_endsJoined, .int t_fewestEdges, .int t_mostEdges, .int t_least])), (h_t_patternCodes, aI T 2 t_patternCodes), (h_t_patternNodes, aI T 2 t_patternNodes)] (fun w1 => ∃ (t_bannedCircles1 : Int32) (t_endLines1 : Int32) (t_endsJoined1 : Int32) (t_fewestEdges1 : Int32) (t_hasDark1 : Int32) (t_least1 : Int32) (t_most1 : Int32) (t_mostEdges1 : Int32) (t_patterns1 : Int32) (t_ruleLines1 : Int32) (t_size1 : Int32) (t_unlike1 : Int32) (t_words1 : Int32) (t_patternCodes1 : Nat → Int32) (t_patternNodes1 : Nat → Int32), w1 = [(h_p1, .inr (5, [.int p1_size, .int p1_hasDark, .int p1_words, .int p1_ruleLines, .int p1_endLines, .int p1_most, .int p1_bannedCircles, .int p1_unlike, .int p1_patterns, .ref h_p1_patternNodes, .ref h_p1_patternCodes, .int p1_endsJoined, .int p1_fewestEdges, .int p1_mostEdges, .int p1_least])), (h_p1_patternCodes, aI T 2 p1_patternCodes), (h_p1_patternNodes, aI T 2 p1_patternNodes), (h_t, .inr (5, [.int t_size1, .int t_hasDark1, .int t_words1, .int t_ruleLines1, .int t_endLines1, .int t_most1, .int t_bannedCircles1, .int t_unlike1, .int t_patterns1, .ref h_t_patternNodes, .ref h_t_patternCodes, .int t_endsJoined1, .int t_fewestEdges1, .int t_mostEdges1, .int t_least1])), (h_t_patternCodes, aI T 2 t_patternCodes1), (h_t_patternNodes, aI T 2 t_patternNodes1)] ∧ post t_bannedCircles1 t_endLines1 t_endsJoined1 t_fewestEdges1 t_hasDark1 t_least1 t_most1 t_mostEdges1 t_patterns1 t_ruleLines1 t_size1 t_unlike1 t_words1 t_patternCodes1 t_patternNodes1) := by
  refine xV_of (by decide +kernel) (Nat.le_of_ble_eq_true rfl) rfl ?_
  intro G X hret
  change G 0 0 0 [(0, .ref h_t), (1, .ref h_p1)] [] [(h_p1, .inr (5, [.int p1_size, .int p1_hasDark, .int p1_words, .int p1_ruleLines, .int p1_endLines, .int p1_most, .int p1_bannedCircles, .int p1_unlike, .int p1_patterns, .ref h_p1_patternNodes, .ref h_p1_patternCodes, .int p1_endsJoined, .int p1_fewestEdges, .int p1_mostEdges, .int p1_least])), (h_p1_patternCodes, aI T 2 p1_patternCodes), (h_p1_patternNodes, aI T 2 p1_patternNodes), (h_t, .inr (5, [.int t_size, .int t_hasDark, .int t_words, .int t_ruleLines, .int t_endLines, .int t_most, .int t_bannedCircles, .int t_unlike, .int t_patterns, .ref h_t_patternNodes, .ref h_t_patternCodes, .int t_endsJoined, .int t_fewestEdges, .int t_mostEdges, .int t_least])), (h_t_patternCodes, aI T 2 t_patternCodes), (h_t_patternNodes, aI T 2 t_patternNodes)]
  unfold F_X6_copyFrom at h
  refine x_aload_n X dX6_copyFrom_0 0 rfl ?_
  refine x_aload_n X dX6_copyFrom_1 1 rfl ?_
  refine x_get X inGX6 0 (by decide) rfl tw_72 dX6_copyFrom_2 rfl 0 rfl rfl ?_
  refine x_put (ws' := [(h_p1, .inr (5, [.int p1_size, .int p1_hasDark, .int p1_words, .int p1_ruleLines, .int p1_endLines, .int p1_most, .int p1_bannedCircles, .int p1_unlike, .int p1_patterns, .ref h_p1_patternNodes, .ref h_p1_patternCodes, .int p1_endsJoined, .int p1_fewestEdges, .int p1_mostEdges, .int p1_least])), (h_p1_patternCodes, aI T 2 p1_patternCodes), (h_p1_patternNodes, aI T 2 p1_patternNodes), (h_t, .inr (5, [.int p1_size, .int t_hasDark, .int t_words, .int t_ruleLines, .int t_endLines, .int t_most, .int t_bannedCircles, .int t_unlike, .int t_patterns, .ref h_t_patternNodes, .ref h_t_patternCodes, .int t_endsJoined, .int t_fewestEdges, .int t_mostEdges, .int t_least])), (h_t_patternCodes, aI T 2 t_patternCodes), (h_t_patternNodes, aI T 2 t_patternNodes)]) X inGX6 tyX6_ok nmX6 0 (by decide) rfl tw_72 dX6_copyFrom_5 rfl rfl 3 rfl rfl rfl (Nat.le_of_ble_eq_true rfl) rfl ?_
  refine x_aload_n X dX6_copyFrom_8 0 rfl ?_
  refine x_aload_n X dX6_copyFrom_9 1 rfl ?_
  refine x_get X inGX6 1 (by decide) rfl tw_76 dX6_copyFrom_10 rfl 0 rfl rfl ?_
  obtain ⟨hz, h⟩ := h
  refine x_put (ws' := [(h_p1, .inr (5, [.int p1_size, .int p1_hasDark, .int p1_words, .int p1_ruleLines, .int p1_endLines, .int p1_most, .int p1_bannedCircles, .int p1_unlike, .int p1_patterns, .ref h_p1_patternNodes, .ref h_p1_patternCodes, .int p1_endsJoined, .int p1_fewestEdges, .int p1_mostEdges, .int p1_least])), (h_p1_patternCodes, aI T 2 p1_patternCodes), (h_p1_patternNodes, aI T 2 p1_patternNodes), (h_t, .inr (5, [.int p1_size, .int p1_hasDark, .int t_words, .int t_ruleLines, .int t_endLines, .int t_most, .int t_bannedCircles, .int t_unlike, .int t_patterns, .ref h_t_patternNodes, .ref h_t_patternCodes, .int t_endsJoined, .int t_fewestEdges, .int t_mostEdges, .int t_least])), (h_t_patternCodes, aI T 2 t_patternCodes), (h_t_patternNodes, aI T 2 t_patternNodes)]) X inGX6 tyX6_ok nmX6 1 (by decide) rfl tw_76 dX6_copyFrom_13 rfl rfl 3 rfl (e_nz hz) (e_fz hz) (Nat.le_of_ble_eq_true rfl) rfl ?_
  refine x_aload_n X dX6_copyFrom_16 0 rfl ?_
  refine x_aload_n X dX6_copyFrom_17 1 rfl ?_
  refine x_get X inGX6 2 (by decide) rfl tw_80 dX6_copyFrom_18 rfl 0 rfl rfl ?_
  refine x_put (ws' := [(h_p1, .inr (5, [.int p1_size, .int p1_hasDark, .int p1_words, .int p1_ruleLines, .int p1_endLines, .int p1_most, .int p1_bannedCircles, .int p1_unlike, .int p1_patterns, .ref h_p1_patternNodes, .ref h_p1_patternCodes, .int p1_endsJoined, .int p1_fewestEdges, .int p1_mostEdges, .int p1_least])), (h_p1_patternCodes, aI T 2 p1_patternCodes), (h_p1_patternNodes, aI T 2 p1_patternNodes), (h_t, .inr (5, [.int p1_size, .int p1_hasDark, .int p1_words, .int t_ruleLines, .int t_endLines, .int t_most, .int t_bannedCircles, .int t_unlike, .int t_patterns, .ref h_t_patternNodes, .ref h_t_patternCodes, .int t_endsJoined, .int t_fewestEdges, .int t_mostEdges, .int t_least])), (h_t_patternCodes, aI T 2 t_patternCodes), (h_t_patternNodes, aI T 2 t_patternNodes)]) X inGX6 tyX6_ok nmX6 2 (by decide) rfl tw_80 dX6_copyFrom_21 rfl rfl 3 rfl rfl rfl (Nat.le_of_ble_eq_true rfl) rfl ?_
  refine x_aload_n X dX6_copyFrom_24 0 rfl ?_
  refine x_aload_n X dX6_copyFrom_25 1 rfl ?_
  refine x_get X inGX6 3 (by decide) rfl tw_81 dX6_copyFrom_26 rfl 0 rfl rfl ?_
  refine x_put (ws' := [(h_p1, .inr (5, [.int p1_size, .int p1_hasDark, .int p1_words, .int p1_ruleLines, .int p1_endLines, .int p1_most, .int p1_bannedCircles, .int p1_unlike, .int p1_patterns, .ref h_p1_patternNodes, .ref h_p1_patternCodes, .int p1_endsJoined, .int p1_fewestEdges, .int p1_mostEdges, .int p1_least])), (h_p1_patternCodes, aI T 2 p1_patternCodes), (h_p1_patternNodes, aI T 2 p1_patternNodes), (h_t, .inr (5, [.int p1_size, .int p1_hasDark, .int p1_words, .int p1_ruleLines, .int t_endLines, .int t_most, .int t_bannedCircles, .int t_unlike, .int t_patterns, .ref h_t_patternNodes, .ref h_t_patternCodes, .int t_endsJoined, .int t_fewestEdges, .int t_mostEdges, .int t_least])), (h_t_patternCodes, aI T 2 t_patternCodes), (h_t_patternNodes, aI T 2 t_patternNodes)]) X inGX6 tyX6_ok nmX6 3 (by decide) rfl tw_81 dX6_copyFrom_29 rfl rfl 3 rfl rfl rfl (Nat.le_of_ble_eq_true rfl) rfl ?_
  refine x_aload_n X dX6_copyFrom_32 0 rfl ?_
  refine x_aload_n X dX6_copyFrom_33 1 rfl ?_
  refine x_get X inGX6 4 (by decide) rfl tw_84 dX6_copyFrom_34 rfl 0 rfl rfl ?_
  refine x_put (ws' := [(h_p1, .inr (5, [.int p1_size, .int p1_hasDark, .int p1_words, .int p1_ruleLines, .int p1_endLines, .int p1_most, .int p1_bannedCircles, .int p1_unlike, .int p1_patterns, .ref h_p1_patternNodes, .ref h_p1_patternCodes, .int p1_endsJoined, .int p1_fewestEdges, .int p1_mostEdges, .int p1_least])), (h_p1_patternCodes, aI T 2 p1_patternCodes), (h_p1_patternNodes, aI T 2 p1_patternNodes), (h_t, .inr (5, [.int p1_size, .int p1_hasDark, .int p1_words, .int p1_ruleLines, .int p1_endLines, .int t_most, .int t_bannedCircles, .int t_unlike, .int t_patterns, .ref h_t_patternNodes, .ref h_t_patternCodes, .int t_endsJoined, .int t_fewestEdges, .int t_mostEdges, .int t_least])), (h_t_patternCodes, aI T 2 t_patternCodes), (h_t_patternNodes, aI T 2 t_patternNodes)]) X inGX6 tyX6_ok nmX6 4 (by decide) rfl tw_84 dX6_copyFrom_37 rfl rfl 3 rfl rfl rfl (Nat.le_of_ble_eq_true rfl) rfl ?_
  refine x_aload_n X dX6_copyFrom_40 0 rfl ?_
  refine x_aload_n X dX6_copyFrom_41 1 rfl ?_
  refine x_get X inGX6 5 (by decide) rfl tw_87 dX6_copyFrom_42 rfl 0 rfl rfl ?_
  refine x_put (ws' := [(h_p1, .inr (5, [.int p1_size, .int p1_hasDark, .int p1_words, .int p1_ruleLines, .int p1_endLines, .int p1_most, .int p1_bannedCircles, .int p1_unlike, .int p1_patterns, .ref h_p1_patternNodes, .ref h_p1_patternCodes, .int p1_endsJoined, .int p1_fewestEdges, .int p1_mostEdges, .int p1_least])), (h_p1_patternCodes, aI T 2 p1_patternCodes), (h_p1_patternNodes, aI T 2 p1_patternNodes), (h_t, .inr (5, [.int p1_size, .int p1_hasDark, .int p1_words, .int p1_ruleLines, .int p1_endLines, .int p1_most, .int t_bannedCircles, .int t_unlike, .int t_patterns, .ref h_t_patternNodes, .ref h_t_patternCodes, .int t_endsJoined, .int t_fewestEdges, .int t_mostEdges, .int t_least])), (h_t_patternCodes, aI T 2 t_patternCodes), (h_t_patternNodes, aI T 2 t_patternNodes)]) X inGX6 tyX6_ok nmX6 5 (by decide) rfl tw_87 dX6_copyFrom_45 rfl rfl 3 rfl rfl rfl (Nat.le_of_ble_eq_true rfl) rfl ?_
  refine x_aload_n X dX6_copyFrom_48 0 rfl ?_
  refine x_aload_n X dX6_copyFrom_49 1 rfl ?_
  refine x_get X inGX6 6 (by decide) rfl tw_89 dX6_copyFrom_50 rfl 0 rfl rfl ?_
  refine x_put (ws' := [(h_p1, .inr (5, [.int p1_size, .int p1_hasDark, .int p1_words, .int p1_ruleLines, .int p1_endLines, .int p1_most, .int p1_bannedCircles, .int p1_unlike, .int p1_patterns, .ref h_p1_patternNodes, .ref h_p1_patternCodes, .int p1_endsJoined, .int p1_fewestEdges, .int p1_mostEdges, .int p1_least])), (h_p1_patternCodes, aI T 2 p1_patternCodes), (h_p1_patternNodes, aI T 2 p1_patternNodes), (h_t, .inr (5, [.int p1_size, .int p1_hasDark, .int p1_words, .int p1_ruleLines, .int p1_endLines, .int p1_most, .int p1_bannedCircles, .int t_unlike, .int t_patterns, .ref h_t_patternNodes, .ref h_t_patternCodes, .int t_endsJoined, .int t_fewestEdges, .int t_mostEdges, .int t_least])), (h_t_patternCodes, aI T 2 t_patternCodes), (h_t_patternNodes, aI T 2 t_patternNodes)]) X inGX6 tyX6_ok nmX6 6 (by decide) rfl tw_89 dX6_copyFrom_53 rfl rfl 3 rfl rfl rfl (Nat.le_of_ble_eq_true rfl) rfl ?_
  refine x_aload_n X dX6_copyFrom_56 0 rfl ?_
  refine x_aload_n X dX6_copyFrom_57 1 rfl ?_
  refine x_get X inGX6 7 (by decide) rfl tw_91 dX6_copyFrom_58 rfl 0 rfl rfl ?_
  obtain ⟨hz, h⟩ := h
  refine x_put (ws' := [(h_p1, .inr (5, [.int p1_size, .int p1_hasDark, .int p1_words, .int p1_ruleLines, .int p1_endLines, .int p1_most, .int p1_bannedCircles, .int p1_unlike, .int p1_patterns, .ref h_p1_patternNodes, .ref h_p1_patternCodes, .int p1_endsJoined, .int p1_fewestEdges, .int p1_mostEdges, .int p1_least])), (h_p1_patternCodes, aI T 2 p1_patternCodes), (h_p1_patternNodes, aI T 2 p1_patternNodes), (h_t, .inr (5, [.int p1_size, .int p1_hasDark, .int p1_words, .int p1_ruleLines, .int p1_endLines, .int p1_most, .int p1_bannedCircles, .int p1_unlike, .int t_patterns, .ref h_t_patternNodes, .ref h_t_patternCodes, .int t_endsJoined, .int t_fewestEdges, .int t_mostEdges, .int t_least])), (h_t_patternCodes, aI T 2 t_patternCodes), (h_t_patternNodes, aI T 2 t_patternNodes)]) X inGX6 tyX6_ok nmX6 7 (by decide) rfl tw_91 dX6_copyFrom_61 rfl rfl 3 rfl (e_nz hz) (e_fz hz) (Nat.le_of_ble_eq_true rfl) rfl ?_
  refine x_aload_n X dX6_copyFrom_64 0 rfl ?_
  refine x_aload_n X dX6_copyFrom_65 1 rfl ?_
  refine x_get X inGX6 8 (by decide) rfl tw_93 dX6_copyFrom_66 rfl 0 rfl rfl ?_
  refine x_put (ws' := [(h_p1, .inr (5, [.int p1_size, .int p1_hasDark, .int p1_words, .int p1_ruleLines, .int p1_endLines, .int p1_most, .int p1_bannedCircles, .int p1_unlike, .int p1_patterns, .ref h_p1_patternNodes, .ref h_p1_patternCodes, .int p1_endsJoined, .int p1_fewestEdges, .int p1_mostEdges, .int p1_least])), (h_p1_patternCodes, aI T 2 p1_patternCodes), (h_p1_patternNodes, aI T 2 p1_patternNodes), (h_t, .inr (5, [.int p1_size, .int p1_hasDark, .int p1_words, .int p1_ruleLines, .int p1_endLines, .int p1_most, .int p1_bannedCircles, .int p1_unlike, .int p1_patterns, .ref h_t_patternNodes, .ref h_t_patternCodes, .int t_endsJoined, .int t_fewestEdges, .int t_mostEdges, .int t_least])), (h_t_patternCodes, aI T 2 t_patternCodes), (h_t_patternNodes, aI T 2 t_patternNodes)]) X inGX6 tyX6_ok nmX6 8 (by decide) rfl tw_93 dX6_copyFrom_69 rfl rfl 3 rfl rfl rfl (Nat.le_of_ble_eq_true rfl) rfl ?_
  refine x_aload_n X dX6_copyFrom_72 1 rfl ?_
  refine x_get X inGX6 9 (by decide) rfl tw_94 dX6_copyFrom_73 rfl 0 rfl rfl ?_
  refine x_iconst (v := 0) X dX6_copyFrom_76 (by decide) ?_
  refine x_aload_n X dX6_copyFrom_77 0 rfl ?_
  refine x_get X inGX6 9 (by decide) rfl tw_94 dX6_copyFrom_78 rfl 3 rfl rfl ?_
  refine x_iconst (v := 0) X dX6_copyFrom_81 (by decide) ?_
  refine x_iconst (v := 2) X dX6_copyFrom_82 (by decide) ?_
  obtain ⟨⟨g1, g2, g3, g4, g5⟩, h⟩ := h
  refine x_acopy (ws' := [(h_p1, .inr (5, [.int p1_size, .int p1_hasDark, .int p1_words, .int p1_ruleLines, .int p1_endLines, .int p1_most, .int p1_bannedCircles, .int p1_unlike, .int p1_patterns, .ref h_p1_patternNodes, .ref h_p1_patternCodes, .int p1_endsJoined, .int p1_fewestEdges, .int p1_mostEdges, .int p1_least])), (h_p1_patternCodes, aI T 2 p1_patternCodes), (h_p1_patternNodes, aI T 2 p1_patternNodes), (h_t, .inr (5, [.int p1_size, .int p1_hasDark, .int p1_words, .int p1_ruleLines, .int p1_endLines, .int p1_most, .int p1_bannedCircles, .int p1_unlike, .int p1_patterns, .ref h_t_patternNodes, .ref h_t_patternCodes, .int t_endsJoined, .int t_fewestEdges, .int t_mostEdges, .int t_least])), (h_t_patternCodes, aI T 2 t_patternCodes), (h_t_patternNodes, aI T 2 (va_cpy p1_patternNodes t_patternNodes (0 : Int32).toNatClampNeg (0 : Int32).toNatClampNeg (2 : Int32).toNatClampNeg))]) X tw_569 tw_571 tw_570 tw_24 2 5 rfl rfl g1 g2 g3 g4 g5 (Nat.le_of_ble_eq_true rfl) (Nat.le_of_ble_eq_true rfl) (Nat.le_of_ble_eq_true rfl) dX6_copyFrom_83 rfl ?_
  refine x_aload_n X dX6_copyFrom_86 1 rfl ?_
  refine x_get X inGX6 10 (by decide) rfl tw_95 dX6_copyFrom_87 rfl 0 rfl rfl ?_
  refine x_iconst (v := 0) X dX6_copyFrom_90 (by decide) ?_
  refine x_aload_n X dX6_copyFrom_91 0 rfl ?_
  refine x_get X inGX6 10 (by decide) rfl tw_95 dX6_copyFrom_92 rfl 3 rfl rfl ?_
  refine x_iconst (v := 0) X dX6_copyFrom_95 (by decide) ?_
  refine x_iconst (v := 2) X dX6_copyFrom_96 (by decide) ?_
  obtain ⟨⟨g1, g2, g3, g4, g5⟩, h⟩ := h
  refine x_acopy (ws' := [(h_p1, .inr (5, [.int p1_size, .int p1_hasDark, .int p1_words, .int p1_ruleLines, .int p1_endLines, .int p1_most, .int p1_bannedCircles, .int p1_unlike, .int p1_patterns, .ref h_p1_patternNodes, .ref h_p1_patternCodes, .int p1_endsJoined, .int p1_fewestEdges, .int p1_mostEdges, .int p1_least])), (h_p1_patternCodes, aI T 2 p1_patternCodes), (h_p1_patternNodes, aI T 2 p1_patternNodes), (h_t, .inr (5, [.int p1_size, .int p1_hasDark, .int p1_words, .int p1_ruleLines, .int p1_endLines, .int p1_most, .int p1_bannedCircles, .int p1_unlike, .int p1_patterns, .ref h_t_patternNodes, .ref h_t_patternCodes, .int t_endsJoined, .int t_fewestEdges, .int t_mostEdges, .int t_least])), (h_t_patternCodes, aI T 2 (va_cpy p1_patternCodes t_patternCodes (0 : Int32).toNatClampNeg (0 : Int32).toNatClampNeg (2 : Int32).toNatClampNeg)), (h_t_patternNodes, aI T 2 (va_cpy p1_patternNodes t_patternNodes (0 : Int32).toNatClampNeg (0 : Int32).toNatClampNeg (2 : Int32).toNatClampNeg))]) X tw_569 tw_571 tw_570 tw_24 1 4 rfl rfl g1 g2 g3 g4 g5 (Nat.le_of_ble_eq_true rfl) (Nat.le_of_ble_eq_true rfl) (Nat.le_of_ble_eq_true rfl) dX6_copyFrom_97 rfl ?_
  refine x_aload_n X dX6_copyFrom_100 0 rfl ?_
  refine x_aload_n X dX6_copyFrom_101 1 rfl ?_
  refine x_get X inGX6 11 (by decide) rfl tw_96 dX6_copyFrom_102 rfl 0 rfl rfl ?_
  obtain ⟨hz, h⟩ := h
  refine x_put (ws' := [(h_p1, .inr (5, [.int p1_size, .int p1_hasDark, .int p1_words, .int p1_ruleLines, .int p1_endLines, .int p1_most, .int p1_bannedCircles, .int p1_unlike, .int p1_patterns, .ref h_p1_patternNodes, .ref h_p1_patternCodes, .int p1_endsJoined, .int p1_fewestEdges, .int p1_mostEdges, .int p1_least])), (h_p1_patternCodes, aI T 2 p1_patternCodes), (h_p1_patternNodes, aI T 2 p1_patternNodes), (h_t, .inr (5, [.int p1_size, .int p1_hasDark, .int p1_words, .int p1_ruleLines, .int p1_endLines, .int p1_most, .int p1_bannedCircles, .int p1_unlike, .int p1_patterns, .ref h_t_patternNodes, .ref h_t_patternCodes, .int p1_endsJoined, .int t_fewestEdges, .int t_mostEdges, .int t_least])), (h_t_patternCodes, aI T 2 (va_cpy p1_patternCodes t_patternCodes (0 : Int32).toNatClampNeg (0 : Int32).toNatClampNeg (2 : Int32).toNatClampNeg)), (h_t_patternNodes, aI T 2 (va_cpy p1_patternNodes t_patternNodes (0 : Int32).toNatClampNeg (0 : Int32).toNatClampNeg (2 : Int32).toNatClampNeg))]) X inGX6 tyX6_ok nmX6 11 (by decide) rfl tw_96 dX6_copyFrom_105 rfl rfl 3 rfl (e_nz hz) (e_fz hz) (Nat.le_of_ble_eq_true rfl) rfl ?_
  refine x_aload_n X dX6_copyFrom_108 0 rfl ?_
  refine x_aload_n X dX6_copyFrom_109 1 rfl ?_
  refine x_get X inGX6 12 (by decide) rfl tw_98 dX6_copyFrom_110 rfl 0 rfl rfl ?_
  refine x_put (ws' := [(h_p1, .inr (5, [.int p1_size, .int p1_hasDark, .int p1_words, .int p1_ruleLines, .int p1_endLines, .int p1_most, .int p1_bannedCircles, .int p1_unlike, .int p1_patterns, .ref h_p1_patternNodes, .ref h_p1_patternCodes, .int p1_endsJoined, .int p1_fewestEdges, .int p1_mostEdges, .int p1_least])), (h_p1_patternCodes, aI T 2 p1_patternCodes), (h_p1_patternNodes, aI T 2 p1_patternNodes), (h_t, .inr (5, [.int p1_size, .int p1_hasDark, .int p1_words, .int p1_ruleLines, .int p1_endLines, .int p1_most, .int p1_bannedCircles, .int p1_unlike, .int p1_patterns, .ref h_t_patternNodes, .ref h_t_patternCodes, .int p1_endsJoined, .int p1_fewestEdges, .int t_mostEdges, .int t_least])), (h_t_patternCodes, aI T 2 (va_cpy p1_patternCodes t_patternCodes (0 : Int32).toNatClampNeg (0 : Int32).toNatClampNeg (2 : Int32).toNatClampNeg)), (h_t_patternNodes, aI T 2 (va_cpy p1_patternNodes t_patternNodes (0 : Int32).toNatClampNeg (0 : Int32).toNatClampNeg (2 : Int32).toNatClampNeg))]) X inGX6 tyX6_ok nmX6 12 (by decide) rfl tw_98 dX6_copyFrom_113 rfl rfl 3 rfl rfl rfl (Nat.le_of_ble_eq_true rfl) rfl ?_
  refine x_aload_n X dX6_copyFrom_116 0 rfl ?_
  refine x_aload_n X dX6_copyFrom_117 1 rfl ?_
  refine x_get X inGX6 13 (by decide) rfl tw_100 dX6_copyFrom_118 rfl 0 rfl rfl ?_
  refine x_put (ws' := [(h_p1, .inr (5, [.int p1_size, .int p1_hasDark, .int p1_words, .int p1_ruleLines, .int p1_endLines, .int p1_most, .int p1_bannedCircles, .int p1_unlike, .int p1_patterns, .ref h_p1_patternNodes, .ref h_p1_patternCodes, .int p1_endsJoined, .int p1_fewestEdges, .int p1_mostEdges, .int p1_least])), (h_p1_patternCodes, aI T 2 p1_patternCodes), (h_p1_patternNodes, aI T 2 p1_patternNodes), (h_t, .inr (5, [.int p1_size, .int p1_hasDark, .int p1_words, .int p1_ruleLines, .int p1_endLines, .int p1_most, .int p1_bannedCircles, .int p1_unlike, .int p1_patterns, .ref h_t_patternNodes, .ref h_t_patternCodes, .int p1_endsJoined, .int p1_fewestEdges, .int p1_mostEdges, .int t_least])), (h_t_patternCodes, aI T 2 (va_cpy p1_patternCodes t_patternCodes (0 : Int32).toNatClampNeg (0 : Int32).toNatClampNeg (2 : Int32).toNatClampNeg)), (h_t_patternNodes, aI T 2 (va_cpy p1_patternNodes t_patternNodes (0 : Int32).toNatClampNeg (0 : Int32).toNatClampNeg (2 : Int32).toNatClampNeg))]) X inGX6 tyX6_ok nmX6 13 (by decide) rfl tw_100 dX6_copyFrom_121 rfl rfl 3 rfl rfl rfl (Nat.le_of_ble_eq_true rfl) rfl ?_
  refine x_aload_n X dX6_copyFrom_124 0 rfl ?_
  refine x_aload_n X dX6_copyFrom_125 1 rfl ?_
  refine x_get X inGX6 14 (by decide) rfl tw_102 dX6_copyFrom_126 rfl 0 rfl rfl ?_
  refine x_put (ws' := [(h_p1, .inr (5, [.int p1_size, .int p1_hasDark, .int p1_words, .int p1_ruleLines, .int p1_endLines, .int p1_most, .int p1_bannedCircles, .int p1_unlike, .int p1_patterns, .ref h_p1_patternNodes, .ref h_p1_patternCodes, .int p1_endsJoined, .int p1_fewestEdges, .int p1_mostEdges, .int p1_least])), (h_p1_patternCodes, aI T 2 p1_patternCodes), (h_p1_patternNodes, aI T 2 p1_patternNodes), (h_t, .inr (5, [.int p1_size, .int p1_hasDark, .int p1_words, .int p1_ruleLines, .int p1_endLines, .int p1_most, .int p1_bannedCircles, .int p1_unlike, .int p1_patterns, .ref h_t_patternNodes, .ref h_t_patternCodes, .int p1_endsJoined, .int p1_fewestEdges, .int p1_mostEdges, .int p1_least])), (h_t_patternCodes, aI T 2 (va_cpy p1_patternCodes t_patternCodes (0 : Int32).toNatClampNeg (0 : Int32).toNatClampNeg (2 : Int32).toNatClampNeg)), (h_t_patternNodes, aI T 2 (va_cpy p1_patternNodes t_patternNodes (0 : Int32).toNatClampNeg (0 : Int32).toNatClampNeg (2 : Int32).toNatClampNeg))]) X inGX6 tyX6_ok nmX6 14 (by decide) rfl tw_102 dX6_copyFrom_129 rfl rfl 3 rfl rfl rfl (Nat.le_of_ble_eq_true rfl) rfl ?_
  exact hret _ _ _ dX6_copyFrom_132 ⟨p1_bannedCircles, p1_endLines, p1_endsJoined, p1_fewestEdges, p1_hasDark, p1_least, p1_most, p1_mostEdges, p1_patterns, p1_ruleLines, p1_size, p1_unlike, p1_words, (va_cpy p1_patternCodes t_patternCodes (0 : Int32).toNatClampNeg (0 : Int32).toNatClampNeg (2 : Int32).toNatClampNeg), (va_cpy p1_patternNodes t_patternNodes (0 : Int32).toNatClampNeg (0 : Int32).toNatClampNeg (2 : Int32).toNatClampNeg), rfl, h⟩
theorem dX6_tellsFirst_0 : decode cX6_tellsFirst 0 = .ok (.aload_n 0, 1) := by decide +kernel
theorem dX6_tellsFirst_1 : decode cX6_tellsFirst 1 = .ok (.getfield 29, 3) := by decide +kernel
theorem dX6_tellsFirst_4 : decode cX6_tellsFirst 4 = .ok (.iload_n 1, 1) := by decide +kernel
theorem dX6_tellsFirst_5 : decode cX6_tellsFirst 5 = .ok (.iand, 1) := by decide +kernel
theorem dX6_tellsFirst_6 : decode cX6_tellsFirst 6 = .ok (.ifCond .ne 7, 3) := by decide +kernel
theorem dX6_tellsFirst_9 : decode cX6_tellsFirst 9 = .ok (.iconst 1, 1) := by decide +kernel
theorem dX6_tellsFirst_10 : decode cX6_tellsFirst 10 = .ok (.goto 4, 3) := by decide +kernel
theorem dX6_tellsFirst_13 : decode cX6_tellsFirst 13 = .ok (.iconst 0, 1) := by decide +kernel
theorem dX6_tellsFirst_14 : decode cX6_tellsFirst 14 = .ok (.istore_n 2, 1) := by decide +kernel
theorem dX6_tellsFirst_15 : decode cX6_tellsFirst 15 = .ok (.aload_n 0, 1) := by decide +kernel
theorem dX6_tellsFirst_16 : decode cX6_tellsFirst 16 = .ok (.dup, 1) := by decide +kernel
theorem dX6_tellsFirst_17 : decode cX6_tellsFirst 17 = .ok (.getfield 29, 3) := by decide +kernel
theorem dX6_tellsFirst_20 : decode cX6_tellsFirst 20 = .ok (.iload_n 1, 1) := by decide +kernel
theorem dX6_tellsFirst_21 : decode cX6_tellsFirst 21 = .ok (.ior, 1) := by decide +kernel
theorem dX6_tellsFirst_22 : decode cX6_tellsFirst 22 = .ok (.putfield 29, 3) := by decide +kernel
theorem dX6_tellsFirst_25 : decode cX6_tellsFirst 25 = .ok (.iload_n 2, 1) := by decide +kernel
theorem dX6_tellsFirst_26 : decode cX6_tellsFirst 26 = .ok (.ireturn, 1) := by decide +kernel
set_option maxHeartbeats 4000000 in
set_option maxRecDepth 100000 in
theorem c_X6_tellsFirst (l : Launch) (D : eD) (T : Nat → ClassId) (h_t h_t_patternNodes h_t_patternCodes : Nat) (t_bannedCircles : Int32) (t_endLines : Int32) (t_endsJoined : Int32) (t_fewestEdges : Int32) (t_hasDark : Int32) (t_least : Int32) (t_most : Int32) (t_mostEdges : Int32) (t_patterns : Int32) (t_ruleLines : Int32) (t_size : Int32) (t_unlike : Int32) (t_words : Int32) (p1 : Int32) (post : Int32 → Int32 → Prop) (h : F_X6_tellsFirst t_words p1 post) : cI l D T yX6_tellsFirst cX6_tellsFirst 3 (some .boolean) 0 0 0 0 [.ref h_t, .int p1] [(h_t, .inr (5, [.int t_size, .int t_hasDark, .int t_words, .int t_ruleLines, .int t_endLines, .int t_most, .int t_bannedCircles, .int t_unlike, .int t_patterns, .ref h_t_patternNodes, .ref h_t_patternCodes, .int t_endsJoined, .int t_fewestEdges, .int t_mostEdges, .int t_least]))] (fun r w1 => ∃ (t_words1 : Int32), w1 = [(h_t, .inr (5, [.int t_size, .int t_hasDark, .int t_words1, .int t_ruleLines, .int t_endLines, .int t_most, .int t_bannedCircles, .int t_unlike, .int t_patterns, .ref h_t_patternNodes, .ref h_t_patternCodes, .int t_endsJoined, .int t_fewestEdges, .int t_mostEdges, .int t_least]))] ∧ post r t_words1) := by
  refine xI_of (ty := .boolean) (by decide +kernel) (Nat.le_of_ble_eq_true rfl) rfl ?_
  intro G X hret
  change G 0 0 0 [(0, .ref h_t), (1, .int p1)] [] [(h_t, .inr (5, [.int t_size, .int t_hasDark, .int t_words, .int t_ruleLines, .int t_endLines, .int t_most, .int t_bannedCircles, .int t_unlike, .int t_patterns, .ref h_t_patternNodes, .ref h_t_patternCodes, .int t_endsJoined, .int t_fewestEdges, .int t_mostEdges, .int t_least]))]
  unfold F_X6_tellsFirst at h
  have k14 : ∀ (x1 : Int32) (s0 : Int32) (t_words : Int32), F_X6_tellsFirst_14 post x1 s0 t_words → G 0 0 14 [(0, .ref h_t), (1, .int x1)] [.int s0] [(h_t, .inr (5, [.int t_size, .int t_hasDark, .int t_words, .int t_ruleLines, .int t_endLines, .int t_most, .int t_bannedCircles, .int t_unlike, .int t_patterns, .ref h_t_patternNodes, .ref h_t_patternCodes, .int t_endsJoined, .int t_fewestEdges, .int t_mostEdges, .int t_least]))] := by
    intro x1 s0 t_words h
    unfold F_X6_tellsFirst_14 at h
    refine x_istore_n (lv' := [(2, .int s0), (0, .ref h_t), (1, .int x1)]) X dX6_tellsFirst_14 (by decide) rfl ?_
    refine x_aload_n X dX6_tellsFirst_15 1 rfl ?_
    refine x_dup X dX6_tellsFirst_16 rfl ?_
    refine x_get X inGX6 2 (by decide) rfl tw_80 dX6_tellsFirst_17 rfl 0 rfl rfl ?_
    refine x_iload_n X dX6_tellsFirst_20 2 rfl ?_
    refine x_ior X dX6_tellsFirst_21 ?_
    refine x_put (ws' := [(h_t, .inr (5, [.int t_size, .int t_hasDark, .int (t_words ||| x1), .int t_ruleLines, .int t_endLines, .int t_most, .int t_bannedCircles, .int t_unlike, .int t_patterns, .ref h_t_patternNodes, .ref h_t_patternCodes, .int t_endsJoined, .int t_fewestEdges, .int t_mostEdges, .int t_least]))]) X inGX6 tyX6_ok nmX6 2 (by decide) rfl tw_80 dX6_tellsFirst_22 rfl rfl 0 rfl rfl rfl (Nat.le_of_ble_eq_true rfl) rfl ?_
    refine x_iload_n X dX6_tellsFirst_25 0 rfl ?_
    obtain ⟨hz, h⟩ := h
    exact hret _ _ _ _ dX6_tellsFirst_26 (e_nz hz) ⟨(t_words ||| x1), rfl, h⟩
  refine x_aload_n X dX6_tellsFirst_0 0 rfl ?_
  refine x_get X inGX6 2 (by decide) rfl tw_80 dX6_tellsFirst_1 rfl 0 rfl rfl ?_
  refine x_iload_n X dX6_tellsFirst_4 1 rfl ?_
  refine x_iand X dX6_tellsFirst_5 ?_
  refine x_if_ne (tgt := 13) X dX6_tellsFirst_6 (by decide) (fun hc => ?_) (fun hc => ?_)
  · have h := h.1 hc
    refine x_iconst (v := 0) X dX6_tellsFirst_13 (by decide) ?_
    exact x_sub X [0, 1] rfl (k14 p1 (0 : Int32) t_words h)
  · have h := h.2 hc
    refine x_iconst (v := 1) X dX6_tellsFirst_9 (by decide) ?_
    refine x_goto (tgt := 14) X dX6_tellsFirst_10 (by decide) ?_
    exact x_sub X [0, 1] rfl (k14 p1 (1 : Int32) t_words h)
theorem dX6_hasRoomForPattern_0 : decode cX6_hasRoomForPattern 0 = .ok (.aload_n 0, 1) := by decide +kernel
theorem dX6_hasRoomForPattern_1 : decode cX6_hasRoomForPattern 1 = .ok (.getfield 47, 3) := by decide +kernel
theorem dX6_hasRoomForPattern_4 : decode cX6_hasRoomForPattern 4 = .ok (.iconst 2, 1) := by decide +kernel
theorem dX6_hasRoomForPattern_5 : decode cX6_hasRoomForPattern 5 = .ok (.if_icmp .ge 7, 3) := by decide +kernel
theorem dX6_hasRoomForPattern_8 : decode cX6_hasRoomForPattern 8 = .ok (.iconst 1, 1) := by decide +kernel
theorem dX6_hasRoomForPattern_9 : decode cX6_hasRoomForPattern 9 = .ok (.goto 4, 3) := by decide +kernel
theorem dX6_hasRoomForPattern_12 : decode cX6_hasRoomForPattern 12 = .ok (.iconst 0, 1) := by decide +kernel
theorem dX6_hasRoomForPattern_13 : decode cX6_hasRoomForPattern 13 = .ok (.ireturn, 1) := by decide +kernel
set_option maxHeartbeats 4000000 in
set_option maxRecDepth 100000 in
theorem c_X6_hasRoomForPattern (l : Launch) (D : eD) (T : Nat → ClassId) (h_t h_t_patternNodes h_t_patternCodes : Nat) (t_bannedCircles : Int32) (t_endLines : Int32) (t_endsJoined : Int32) (t_fewestEdges : Int32) (t_hasDark : Int32) (t_least : Int32) (t_most : Int32) (t_mostEdges : Int32) (t_patterns : Int32) (t_ruleLines : Int32) (t_size : Int32) (t_unlike : Int32) (t_words : Int32) (post : Int32 → Prop) (h : F_X6_hasRoomForPattern t_patterns post) : cI l D T yX6_hasRoomForPattern cX6_hasRoomForPattern 1 (some .boolean) 0 0 0 0 [.ref h_t] [(h_t, .inr (5, [.int t_size, .int t_hasDark, .int t_words, .int t_ruleLines, .int t_endLines, .int t_most, .int t_bannedCircles, .int t_unlike, .int t_patterns, .ref h_t_patternNodes, .ref h_t_patternCodes, .int t_endsJoined, .int t_fewestEdges, .int t_mostEdges, .int t_least]))] (fun r w1 => w1 = [(h_t, .inr (5, [.int t_size, .int t_hasDark, .int t_words, .int t_ruleLines, .int t_endLines, .int t_most, .int t_bannedCircles, .int t_unlike, .int t_patterns, .ref h_t_patternNodes, .ref h_t_patternCodes, .int t_endsJoined, .int t_fewestEdges, .int t_mostEdges, .int t_least]))] ∧ post r ) := by
  refine xI_of (ty := .boolean) (by decide +kernel) (Nat.le_of_ble_eq_true rfl) rfl ?_
  intro G X hret
  change G 0 0 0 [(0, .ref h_t)] [] [(h_t, .inr (5, [.int t_size, .int t_hasDark, .int t_words, .int t_ruleLines, .int t_endLines, .int t_most, .int t_bannedCircles, .int t_unlike, .int t_patterns, .ref h_t_patternNodes, .ref h_t_patternCodes, .int t_endsJoined, .int t_fewestEdges, .int t_mostEdges, .int t_least]))]
  unfold F_X6_hasRoomForPattern at h
  have k13 : ∀ (s0 : Int32), F_X6_hasRoomForPattern_13 t_patterns post s0 → G 0 0 13 [] [.int s0] [(h_t, .inr (5, [.int t_size, .int t_hasDark, .int t_words, .int t_ruleLines, .int t_endLines, .int t_most, .int t_bannedCircles, .int t_unlike, .int t_patterns, .ref h_t_patternNodes, .ref h_t_patternCodes, .int t_endsJoined, .int t_fewestEdges, .int t_mostEdges, .int t_least]))] := by
    intro s0 h
    unfold F_X6_hasRoomForPattern_13 at h
    obtain ⟨hz, h⟩ := h
    exact hret _ _ _ _ dX6_hasRoomForPattern_13 (e_nz hz) ⟨rfl, h⟩
  refine x_aload_n X dX6_hasRoomForPattern_0 0 rfl ?_
  refine x_get X inGX6 8 (by decide) rfl tw_93 dX6_hasRoomForPattern_1 rfl 0 rfl rfl ?_
  refine x_iconst (v := 2) X dX6_hasRoomForPattern_4 (by decide) ?_
  refine x_icmp_ge (tgt := 12) X dX6_hasRoomForPattern_5 (by decide) (fun hc => ?_) (fun hc => ?_)
  · have h := h.1 hc
    refine x_iconst (v := 0) X dX6_hasRoomForPattern_12 (by decide) ?_
    exact x_sub X [] rfl (k13 (0 : Int32) h)
  · have h := h.2 hc
    refine x_iconst (v := 1) X dX6_hasRoomForPattern_8 (by decide) ?_
    refine x_goto (tgt := 13) X dX6_hasRoomForPattern_9 (by decide) ?_
    exact x_sub X [] rfl (k13 (1 : Int32) h)
theorem dX6_addPattern_0 : decode cX6_addPattern 0 = .ok (.aload_n 0, 1) := by decide +kernel
theorem dX6_addPattern_1 : decode cX6_addPattern 1 = .ok (.getfield 47, 3) := by decide +kernel
theorem dX6_addPattern_4 : decode cX6_addPattern 4 = .ok (.ifCond .lt 57, 3) := by decide +kernel
theorem dX6_addPattern_7 : decode cX6_addPattern 7 = .ok (.aload_n 0, 1) := by decide +kernel
theorem dX6_addPattern_8 : decode cX6_addPattern 8 = .ok (.getfield 47, 3) := by decide +kernel
theorem dX6_addPattern_11 : decode cX6_addPattern 11 = .ok (.aload_n 0, 1) := by decide +kernel
theorem dX6_addPattern_12 : decode cX6_addPattern 12 = .ok (.getfield 11, 3) := by decide +kernel
theorem dX6_addPattern_15 : decode cX6_addPattern 15 = .ok (.arraylength, 1) := by decide +kernel
theorem dX6_addPattern_16 : decode cX6_addPattern 16 = .ok (.if_icmp .ge 45, 3) := by decide +kernel
theorem dX6_addPattern_19 : decode cX6_addPattern 19 = .ok (.aload_n 0, 1) := by decide +kernel
theorem dX6_addPattern_20 : decode cX6_addPattern 20 = .ok (.getfield 47, 3) := by decide +kernel
theorem dX6_addPattern_23 : decode cX6_addPattern 23 = .ok (.aload_n 0, 1) := by decide +kernel
theorem dX6_addPattern_24 : decode cX6_addPattern 24 = .ok (.getfield 15, 3) := by decide +kernel
theorem dX6_addPattern_27 : decode cX6_addPattern 27 = .ok (.arraylength, 1) := by decide +kernel
theorem dX6_addPattern_28 : decode cX6_addPattern 28 = .ok (.if_icmp .ge 33, 3) := by decide +kernel
theorem dX6_addPattern_31 : decode cX6_addPattern 31 = .ok (.aload_n 0, 1) := by decide +kernel
theorem dX6_addPattern_32 : decode cX6_addPattern 32 = .ok (.getfield 11, 3) := by decide +kernel
theorem dX6_addPattern_35 : decode cX6_addPattern 35 = .ok (.aload_n 0, 1) := by decide +kernel
theorem dX6_addPattern_36 : decode cX6_addPattern 36 = .ok (.getfield 47, 3) := by decide +kernel
theorem dX6_addPattern_39 : decode cX6_addPattern 39 = .ok (.iload_n 1, 1) := by decide +kernel
theorem dX6_addPattern_40 : decode cX6_addPattern 40 = .ok (.iastore, 1) := by decide +kernel
theorem dX6_addPattern_41 : decode cX6_addPattern 41 = .ok (.aload_n 0, 1) := by decide +kernel
theorem dX6_addPattern_42 : decode cX6_addPattern 42 = .ok (.getfield 15, 3) := by decide +kernel
theorem dX6_addPattern_45 : decode cX6_addPattern 45 = .ok (.aload_n 0, 1) := by decide +kernel
theorem dX6_addPattern_46 : decode cX6_addPattern 46 = .ok (.getfield 47, 3) := by decide +kernel
theorem dX6_addPattern_49 : decode cX6_addPattern 49 = .ok (.iload_n 2, 1) := by decide +kernel
theorem dX6_addPattern_50 : decode cX6_addPattern 50 = .ok (.iastore, 1) := by decide +kernel
theorem dX6_addPattern_51 : decode cX6_addPattern 51 = .ok (.aload_n 0, 1) := by decide +kernel
theorem dX6_addPattern_52 : decode cX6_addPattern 52 = .ok (.dup, 1) := by decide +kernel
theorem dX6_addPattern_53 : decode cX6_addPattern 53 = .ok (.getfield 47, 3) := by decide +kernel
theorem dX6_addPattern_56 : decode cX6_addPattern 56 = .ok (.iconst 1, 1) := by decide +kernel
theorem dX6_addPattern_57 : decode cX6_addPattern 57 = .ok (.iadd, 1) := by decide +kernel
theorem dX6_addPattern_58 : decode cX6_addPattern 58 = .ok (.putfield 47, 3) := by decide +kernel
theorem dX6_addPattern_61 : decode cX6_addPattern 61 = .ok (.return_, 1) := by decide +kernel
set_option maxHeartbeats 4000000 in
set_option maxRecDepth 100000 in
theorem c_X6_addPattern (l : Launch) (D : eD) (T : Nat → ClassId) (h_t h_t_patternNodes h_t_patternCodes : Nat) (t_bannedCircles : Int32) (t_endLines : Int32) (t_endsJoined : Int32) (t_fewestEdges : Int32) (t_hasDark : Int32) (t_least : Int32) (t_most : Int32) (t_mostEdges : Int32) (t_patterns : Int32) (t_ruleLines : Int32) (t_size : Int32) (t_unlike : Int32) (t_words : Int32) (t_patternCodes : Nat → Int32) (t_patternNodes : Nat → Int32) (p1 : Int32) (p2 : Int32) (post : Int32 → (Nat → Int32) → (Nat → Int32) → Prop) (h : F_X6_addPattern t_patterns t_patternCodes t_patternNodes p1 p2 post) : cV l D T yX6_addPattern cX6_addPattern 3 none 0 0 0 0 [.ref h_t, .int p1, .int p2] [(h_t, .inr (5, [.int t_size, .int t_hasDark, .int t_words, .int t_ruleLines, .int t_endLines, .int t_most, .int t_bannedCircles, .int t_unlike, .int t_patterns, .ref h_t_patternNodes, .ref h_t_patternCodes, .int t_endsJoined, .int t_fewestEdges, .int t_mostEdges, .int t_least])), (h_t_patternCodes, aI T 2 t_patternCodes), (h_t_patternNodes, aI T 2 t_patternNodes)] (fun w1 => ∃ (t_patterns1 : Int32) (t_patternCodes1 : Nat → Int32) (t_patternNodes1 : Nat → Int32), w1 = [(h_t, .inr (5, [.int t_size, .int t_hasDark, .int t_words, .int t_ruleLines, .int t_endLines, .int t_most, .int t_bannedCircles, .int t_unlike, .int t_patterns1, .ref h_t_patternNodes, .ref h_t_patternCodes, .int t_endsJoined, .int t_fewestEdges, .int t_mostEdges, .int t_least])), (h_t_patternCodes, aI T 2 t_patternCodes1), (h_t_patternNodes, aI T 2 t_patternNodes1)] ∧ post t_patterns1 t_patternCodes1 t_patternNodes1) := by
  refine xV_of (by decide +kernel) (Nat.le_of_ble_eq_true rfl) rfl ?_
  intro G X hret
  change G 0 0 0 [(0, .ref h_t), (1, .int p1), (2, .int p2)] [] [(h_t, .inr (5, [.int t_size, .int t_hasDark, .int t_words, .int t_ruleLines, .int t_endLines, .int t_most, .int t_bannedCircles, .int t_unlike, .int t_patterns, .ref h_t_patternNodes, .ref h_t_patternCodes, .int t_endsJoined, .int t_fewestEdges, .int t_mostEdges, .int t_least])), (h_t_patternCodes, aI T 2 t_patternCodes), (h_t_patternNodes, aI T 2 t_patternNodes)]
  unfold F_X6_addPattern at h
  have k61 : ∀ (t_patterns : Int32) (t_patternCodes : Nat → Int32) (t_patternNodes : Nat → Int32), F_X6_addPattern_61 post t_patterns t_patternCodes t_patternNodes → G 0 0 61 [] [] [(h_t, .inr (5, [.int t_size, .int t_hasDark, .int t_words, .int t_ruleLines, .int t_endLines, .int t_most, .int t_bannedCircles, .int t_unlike, .int t_patterns, .ref h_t_patternNodes, .ref h_t_patternCodes, .int t_endsJoined, .int t_fewestEdges, .int t_mostEdges, .int t_least])), (h_t_patternCodes, aI T 2 t_patternCodes), (h_t_patternNodes, aI T 2 t_patternNodes)] := by
    intro t_patterns t_patternCodes t_patternNodes h
    unfold F_X6_addPattern_61 at h
    exact hret _ _ _ dX6_addPattern_61 ⟨t_patterns, t_patternCodes, t_patternNodes, rfl, h⟩
  refine x_aload_n X dX6_addPattern_0 0 rfl ?_
  refine x_get X inGX6 8 (by decide) rfl tw_93 dX6_addPattern_1 rfl 0 rfl rfl ?_
  refine x_if_lt (tgt := 61) X dX6_addPattern_4 (by decide) (fun hc => ?_) (fun hc => ?_)
  · have h := h.1 hc
    exact x_sub X [] rfl (k61 t_patterns t_patternCodes t_patternNodes h)
  · have h := h.2 hc
    refine x_aload_n X dX6_addPattern_7 0 rfl ?_
    refine x_get X inGX6 8 (by decide) rfl tw_93 dX6_addPattern_8 rfl 0 rfl rfl ?_
    refine x_aload_n X dX6_addPattern_11 0 rfl ?_
    refine x_get X inGX6 9 (by decide) rfl tw_94 dX6_addPattern_12 rfl 0 rfl rfl ?_
    refine x_alen (v := (2 : Int32)) X dX6_addPattern_15 2 1 rfl rfl rfl ?_
    refine x_icmp_ge (tgt := 61) X dX6_addPattern_16 (by decide) (fun hc => ?_) (fun hc => ?_)
    · have h := h.1 hc
      exact x_sub X [] rfl (k61 t_patterns t_patternCodes t_patternNodes h)
    · have h := h.2 hc
      refine x_aload_n X dX6_addPattern_19 0 rfl ?_
      refine x_get X inGX6 8 (by decide) rfl tw_93 dX6_addPattern_20 rfl 0 rfl rfl ?_
      refine x_aload_n X dX6_addPattern_23 0 rfl ?_
      refine x_get X inGX6 10 (by decide) rfl tw_95 dX6_addPattern_24 rfl 0 rfl rfl ?_
      refine x_alen (v := (2 : Int32)) X dX6_addPattern_27 1 1 rfl rfl rfl ?_
      refine x_icmp_ge (tgt := 61) X dX6_addPattern_28 (by decide) (fun hc => ?_) (fun hc => ?_)
      · have h := h.1 hc
        exact x_sub X [] rfl (k61 t_patterns t_patternCodes t_patternNodes h)
      · have h := h.2 hc
        refine x_aload_n X dX6_addPattern_31 0 rfl ?_
        refine x_get X inGX6 9 (by decide) rfl tw_94 dX6_addPattern_32 rfl 0 rfl rfl ?_
        refine x_aload_n X dX6_addPattern_35 0 rfl ?_
        refine x_get X inGX6 8 (by decide) rfl tw_93 dX6_addPattern_36 rfl 0 rfl rfl ?_
        refine x_iload_n X dX6_addPattern_39 1 rfl ?_
        obtain ⟨hi, h⟩ := h
        refine x_iast (ws' := [(h_t, .inr (5, [.int t_size, .int t_hasDark, .int t_words, .int t_ruleLines, .int t_endLines, .int t_most, .int t_bannedCircles, .int t_unlike, .int t_patterns, .ref h_t_patternNodes, .ref h_t_patternCodes, .int t_endsJoined, .int t_fewestEdges, .int t_mostEdges, .int t_least])), (h_t_patternCodes, aI T 2 t_patternCodes), (h_t_patternNodes, aI T 2 (upd t_patternNodes t_patterns.toNatClampNeg p1))]) X dX6_addPattern_40 2 rfl hi rfl ?_
        refine x_aload_n X dX6_addPattern_41 0 rfl ?_
        refine x_get X inGX6 10 (by decide) rfl tw_95 dX6_addPattern_42 rfl 0 rfl rfl ?_
        refine x_aload_n X dX6_addPattern_45 0 rfl ?_
        refine x_get X inGX6 8 (by decide) rfl tw_93 dX6_addPattern_46 rfl 0 rfl rfl ?_
        refine x_iload_n X dX6_addPattern_49 2 rfl ?_
        obtain ⟨hi, h⟩ := h
        refine x_iast (ws' := [(h_t, .inr (5, [.int t_size, .int t_hasDark, .int t_words, .int t_ruleLines, .int t_endLines, .int t_most, .int t_bannedCircles, .int t_unlike, .int t_patterns, .ref h_t_patternNodes, .ref h_t_patternCodes, .int t_endsJoined, .int t_fewestEdges, .int t_mostEdges, .int t_least])), (h_t_patternCodes, aI T 2 (upd t_patternCodes t_patterns.toNatClampNeg p2)), (h_t_patternNodes, aI T 2 (upd t_patternNodes t_patterns.toNatClampNeg p1))]) X dX6_addPattern_50 1 rfl hi rfl ?_
        refine x_aload_n X dX6_addPattern_51 0 rfl ?_
        refine x_dup X dX6_addPattern_52 rfl ?_
        refine x_get X inGX6 8 (by decide) rfl tw_93 dX6_addPattern_53 rfl 0 rfl rfl ?_
        refine x_iconst (v := 1) X dX6_addPattern_56 (by decide) ?_
        refine x_iadd X dX6_addPattern_57 ?_
        refine x_put (ws' := [(h_t, .inr (5, [.int t_size, .int t_hasDark, .int t_words, .int t_ruleLines, .int t_endLines, .int t_most, .int t_bannedCircles, .int t_unlike, .int (t_patterns + (1 : Int32)), .ref h_t_patternNodes, .ref h_t_patternCodes, .int t_endsJoined, .int t_fewestEdges, .int t_mostEdges, .int t_least])), (h_t_patternCodes, aI T 2 (upd t_patternCodes t_patterns.toNatClampNeg p2)), (h_t_patternNodes, aI T 2 (upd t_patternNodes t_patterns.toNatClampNeg p1))]) X inGX6 tyX6_ok nmX6 8 (by decide) rfl tw_93 dX6_addPattern_58 rfl rfl 0 rfl rfl rfl (Nat.le_of_ble_eq_true rfl) rfl ?_
        exact x_sub X [] rfl (k61 (t_patterns + (1 : Int32)) (upd t_patternCodes t_patterns.toNatClampNeg p2) (upd t_patternNodes t_patterns.toNatClampNeg p1) h)
theorem dX6_formPatterns_0 : decode cX6_formPatterns 0 = .ok (.iconst 0, 1) := by decide +kernel
theorem dX6_formPatterns_1 : decode cX6_formPatterns 1 = .ok (.istore_n 2, 1) := by decide +kernel
theorem dX6_formPatterns_2 : decode cX6_formPatterns 2 = .ok (.iload_n 2, 1) := by decide +kernel
theorem dX6_formPatterns_3 : decode cX6_formPatterns 3 = .ok (.aload_n 0, 1) := by decide +kernel
theorem dX6_formPatterns_4 : decode cX6_formPatterns 4 = .ok (.getfield 47, 3) := by decide +kernel
theorem dX6_formPatterns_7 : decode cX6_formPatterns 7 = .ok (.if_icmp .ge 49, 3) := by decide +kernel
theorem dX6_formPatterns_10 : decode cX6_formPatterns 10 = .ok (.iload_n 2, 1) := by decide +kernel
theorem dX6_formPatterns_11 : decode cX6_formPatterns 11 = .ok (.aload_n 0, 1) := by decide +kernel
theorem dX6_formPatterns_12 : decode cX6_formPatterns 12 = .ok (.getfield 11, 3) := by decide +kernel
theorem dX6_formPatterns_15 : decode cX6_formPatterns 15 = .ok (.arraylength, 1) := by decide +kernel
theorem dX6_formPatterns_16 : decode cX6_formPatterns 16 = .ok (.if_icmp .ge 40, 3) := by decide +kernel
theorem dX6_formPatterns_19 : decode cX6_formPatterns 19 = .ok (.iload_n 2, 1) := by decide +kernel
theorem dX6_formPatterns_20 : decode cX6_formPatterns 20 = .ok (.aload_n 0, 1) := by decide +kernel
theorem dX6_formPatterns_21 : decode cX6_formPatterns 21 = .ok (.getfield 15, 3) := by decide +kernel
theorem dX6_formPatterns_24 : decode cX6_formPatterns 24 = .ok (.arraylength, 1) := by decide +kernel
theorem dX6_formPatterns_25 : decode cX6_formPatterns 25 = .ok (.if_icmp .ge 31, 3) := by decide +kernel
theorem dX6_formPatterns_28 : decode cX6_formPatterns 28 = .ok (.aload_n 0, 1) := by decide +kernel
theorem dX6_formPatterns_29 : decode cX6_formPatterns 29 = .ok (.getfield 15, 3) := by decide +kernel
theorem dX6_formPatterns_32 : decode cX6_formPatterns 32 = .ok (.iload_n 2, 1) := by decide +kernel
theorem dX6_formPatterns_33 : decode cX6_formPatterns 33 = .ok (.aload_n 1, 1) := by decide +kernel
theorem dX6_formPatterns_34 : decode cX6_formPatterns 34 = .ok (.aload_n 0, 1) := by decide +kernel
theorem dX6_formPatterns_35 : decode cX6_formPatterns 35 = .ok (.getfield 11, 3) := by decide +kernel
theorem dX6_formPatterns_38 : decode cX6_formPatterns 38 = .ok (.iload_n 2, 1) := by decide +kernel
theorem dX6_formPatterns_39 : decode cX6_formPatterns 39 = .ok (.iaload, 1) := by decide +kernel
theorem dX6_formPatterns_40 : decode cX6_formPatterns 40 = .ok (.aload_n 0, 1) := by decide +kernel
theorem dX6_formPatterns_41 : decode cX6_formPatterns 41 = .ok (.getfield 15, 3) := by decide +kernel
theorem dX6_formPatterns_44 : decode cX6_formPatterns 44 = .ok (.iload_n 2, 1) := by decide +kernel
theorem dX6_formPatterns_45 : decode cX6_formPatterns 45 = .ok (.iaload, 1) := by decide +kernel
theorem dX6_formPatterns_46 : decode cX6_formPatterns 46 = .ok (.invokevirtual 68, 3) := by decide +kernel
theorem dX6_formPatterns_49 : decode cX6_formPatterns 49 = .ok (.iastore, 1) := by decide +kernel
theorem dX6_formPatterns_50 : decode cX6_formPatterns 50 = .ok (.iinc 2 1, 3) := by decide +kernel
theorem dX6_formPatterns_53 : decode cX6_formPatterns 53 = .ok (.goto (-51), 3) := by decide +kernel
theorem dX6_formPatterns_56 : decode cX6_formPatterns 56 = .ok (.return_, 1) := by decide +kernel
set_option maxHeartbeats 4000000 in
set_option maxRecDepth 100000 in
theorem c_X6_formPatterns (l : Launch) (D : eD) (T : Nat → ClassId) (h_p1 h_p1_sketch h_p1_sketch_near h_p1_sketch_fans h_t h_t_patternNodes h_t_patternCodes : Nat) (p1_allBits : Int32) (p1_firstOrder : Int64) (p1_isBeaten : Int32) (p1_isStudy : Int32) (p1_isTest : Int32) (p1_least : Int32) (p1_nodes : Int32) (p1_order : Int64) (p1_seen : Int64) (p1_stillEdges : Int32) (p1_symmetries : Int32) (p1_sketch_colours : Int64) (p1_sketch_darks : Int32) (p1_sketch_nodes : Int32) (p1_sketch_fans : Nat → Int64) (p1_sketch_near : Nat → Int32) (t_bannedCircles : Int32) (t_endLines : Int32) (t_endsJoined : Int32) (t_fewestEdges : Int32) (t_hasDark : Int32) (t_least : Int32) (t_most : Int32) (t_mostEdges : Int32) (t_patterns : Int32) (t_ruleLines : Int32) (t_size : Int32) (t_unlike : Int32) (t_words : Int32) (t_patternCodes : Nat → Int32) (t_patternNodes : Nat → Int32) (post : Int32 → Int64 → Int32 → Int32 → Int32 → Int32 → Int32 → Int64 → Int64 → Int32 → Int32 → Int64 → Int32 → Int32 → (Nat → Int64) → (Nat → Int32) → (Nat → Int32) → Prop) (h : F_X6_formPatterns t_patterns t_patternNodes p1_allBits p1_firstOrder p1_isBeaten p1_isStudy p1_isTest p1_least p1_nodes p1_order p1_seen p1_stillEdges p1_symmetries p1_sketch_colours p1_sketch_darks p1_sketch_nodes p1_sketch_fans p1_sketch_near t_patternCodes post) : cV l D T yX6_formPatterns cX6_formPatterns 3 none 33 854 0 0 [.ref h_t, .ref h_p1] [(h_p1, .inr (1, [.ref h_p1_sketch, .int p1_nodes, .int p1_allBits, .int p1_isTest, .int p1_isBeaten, .int p1_isStudy, .long p1_order, .int p1_least, .int p1_symmetries, .long p1_firstOrder, .long p1_seen, .int p1_stillEdges])), (h_p1_sketch, .inr (6, [.ref h_p1_sketch_near, .ref h_p1_sketch_fans, .int p1_sketch_nodes, .int p1_sketch_darks, .long p1_sketch_colours])), (h_p1_sketch_fans, aJ T 6 p1_sketch_fans), (h_p1_sketch_near, aI T 6 p1_sketch_near), (h_t, .inr (5, [.int t_size, .int t_hasDark, .int t_words, .int t_ruleLines, .int t_endLines, .int t_most, .int t_bannedCircles, .int t_unlike, .int t_patterns, .ref h_t_patternNodes, .ref h_t_patternCodes, .int t_endsJoined, .int t_fewestEdges, .int t_mostEdges, .int t_least])), (h_t_patternCodes, aI T 2 t_patternCodes), (h_t_patternNodes, aI T 2 t_patternNodes)] (fun w1 => ∃ (p1_allBits1 : Int32) (p1_firstOrder1 : Int64) (p1_isBeaten1 : Int32) (p1_isStudy1 : Int32) (p1_isTest1 : Int32) (p1_least1 : Int32) (p1_nodes1 : Int32) (p1_order1 : Int64) (p1_seen1 : Int64) (p1_stillEdges1 : Int32) (p1_symmetries1 : Int32) (p1_sketch_colours1 : Int64) (p1_sketch_darks1 : Int32) (p1_sketch_nodes1 : Int32) (p1_sketch_fans1 : Nat → Int64) (p1_sketch_near1 : Nat → Int32) (t_patternCodes1 : Nat → Int32), w1 = [(h_p1, .inr (1, [.ref h_p1_sketch, .int p1_nodes1, .int p1_allBits1, .int p1_isTest1, .int p1_isBeaten1, .int p1_isStudy1, .long p1_order1, .int p1_least1, .int p1_symmetries1, .long p1_firstOrder1, .long p1_seen1, .int p1_stillEdges1])), (h_p1_sketch, .inr (6, [.ref h_p1_sketch_near, .ref h_p1_sketch_fans, .int p1_sketch_nodes1, .int p1_sketch_darks1, .long p1_sketch_colours1])), (h_p1_sketch_fans, aJ T 6 p1_sketch_fans1), (h_p1_sketch_near, aI T 6 p1_sketch_near1), (h_t, .inr (5, [.int t_size, .int t_hasDark, .int t_words, .int t_ruleLines, .int t_endLines, .int t_most, .int t_bannedCircles, .int t_unlike, .int t_patterns, .ref h_t_patternNodes, .ref h_t_patternCodes, .int t_endsJoined, .int t_fewestEdges, .int t_mostEdges, .int t_least])), (h_t_patternCodes, aI T 2 t_patternCodes1), (h_t_patternNodes, aI T 2 t_patternNodes)] ∧ post p1_allBits1 p1_firstOrder1 p1_isBeaten1 p1_isStudy1 p1_isTest1 p1_least1 p1_nodes1 p1_order1 p1_seen1 p1_stillEdges1 p1_symmetries1 p1_sketch_colours1 p1_sketch_darks1 p1_sketch_nodes1 p1_sketch_fans1 p1_sketch_near1 t_patternCodes1) := by
  refine xV_of (by decide +kernel) (Nat.le_of_ble_eq_true rfl) rfl ?_
  intro G X hret
  change G 0 0 0 [(0, .ref h_t), (1, .ref h_p1)] [] [(h_p1, .inr (1, [.ref h_p1_sketch, .int p1_nodes, .int p1_allBits, .int p1_isTest, .int p1_isBeaten, .int p1_isStudy, .long p1_order, .int p1_least, .int p1_symmetries, .long p1_firstOrder, .long p1_seen, .int p1_stillEdges])), (h_p1_sketch, .inr (6, [.ref h_p1_sketch_near, .ref h_p1_sketch_fans, .int p1_sketch_nodes, .int p1_sketch_darks, .long p1_sketch_colours])), (h_p1_sketch_fans, aJ T 6 p1_sketch_fans), (h_p1_sketch_near, aI T 6 p1_sketch_near), (h_t, .inr (5, [.int t_size, .int t_hasDark, .int t_words, .int t_ruleLines, .int t_endLines, .int t_most, .int t_bannedCircles, .int t_unlike, .int t_patterns, .ref h_t_patternNodes, .ref h_t_patternCodes, .int t_endsJoined, .int t_fewestEdges, .int t_mostEdges, .int t_least])), (h_t_patternCodes, aI T 2 t_patternCodes), (h_t_patternNodes, aI T 2 t_patternNodes)]
  unfold F_X6_formPatterns at h
  have k2 : ∀ (n2 : Nat) (x2 : Int32) (p1_allBits : Int32) (p1_firstOrder : Int64) (p1_isBeaten : Int32) (p1_isStudy : Int32) (p1_isTest : Int32) (p1_least : Int32) (p1_nodes : Int32) (p1_order : Int64) (p1_seen : Int64) (p1_stillEdges : Int32) (p1_symmetries : Int32) (p1_sketch_colours : Int64) (p1_sketch_darks : Int32) (p1_sketch_nodes : Int32) (p1_sketch_fans : Nat → Int64) (p1_sketch_near : Nat → Int32) (t_patternCodes : Nat → Int32), F_X6_formPatterns_2 t_patterns t_patternNodes post n2 x2 p1_allBits p1_firstOrder p1_isBeaten p1_isStudy p1_isTest p1_least p1_nodes p1_order p1_seen p1_stillEdges p1_symmetries p1_sketch_colours p1_sketch_darks p1_sketch_nodes p1_sketch_fans p1_sketch_near t_patternCodes → G 0 0 2 [(0, .ref h_t), (1, .ref h_p1), (2, .int x2)] [] [(h_p1, .inr (1, [.ref h_p1_sketch, .int p1_nodes, .int p1_allBits, .int p1_isTest, .int p1_isBeaten, .int p1_isStudy, .long p1_order, .int p1_least, .int p1_symmetries, .long p1_firstOrder, .long p1_seen, .int p1_stillEdges])), (h_p1_sketch, .inr (6, [.ref h_p1_sketch_near, .ref h_p1_sketch_fans, .int p1_sketch_nodes, .int p1_sketch_darks, .long p1_sketch_colours])), (h_p1_sketch_fans, aJ T 6 p1_sketch_fans), (h_p1_sketch_near, aI T 6 p1_sketch_near), (h_t, .inr (5, [.int t_size, .int t_hasDark, .int t_words, .int t_ruleLines, .int t_endLines, .int t_most, .int t_bannedCircles, .int t_unlike, .int t_patterns, .ref h_t_patternNodes, .ref h_t_patternCodes, .int t_endsJoined, .int t_fewestEdges, .int t_mostEdges, .int t_least])), (h_t_patternCodes, aI T 2 t_patternCodes), (h_t_patternNodes, aI T 2 t_patternNodes)] := by
    intro n2
    induction n2 with
    | zero => intro x2 p1_allBits p1_firstOrder p1_isBeaten p1_isStudy p1_isTest p1_least p1_nodes p1_order p1_seen p1_stillEdges p1_symmetries p1_sketch_colours p1_sketch_darks p1_sketch_nodes p1_sketch_fans p1_sketch_near t_patternCodes h; exact h.elim
    | succ n2 ih2 =>
      intro x2 p1_allBits p1_firstOrder p1_isBeaten p1_isStudy p1_isTest p1_least p1_nodes p1_order p1_seen p1_stillEdges p1_symmetries p1_sketch_colours p1_sketch_darks p1_sketch_nodes p1_sketch_fans p1_sketch_near t_patternCodes h
      rw [F_X6_formPatterns_2] at h
      have k56 : ∀ (p1_allBits : Int32) (p1_firstOrder : Int64) (p1_isBeaten : Int32) (p1_isStudy : Int32) (p1_isTest : Int32) (p1_least : Int32) (p1_nodes : Int32) (p1_order : Int64) (p1_seen : Int64) (p1_stillEdges : Int32) (p1_symmetries : Int32) (p1_sketch_colours : Int64) (p1_sketch_darks : Int32) (p1_sketch_nodes : Int32) (p1_sketch_fans : Nat → Int64) (p1_sketch_near : Nat → Int32) (t_patternCodes : Nat → Int32), F_X6_formPatterns_56 t_patterns t_patternNodes post p1_allBits p1_firstOrder p1_isBeaten p1_isStudy p1_isTest p1_least p1_nodes p1_order p1_seen p1_stillEdges p1_symmetries p1_sketch_colours p1_sketch_darks p1_sketch_nodes p1_sketch_fans p1_sketch_near t_patternCodes → G 0 0 56 [] [] [(h_p1, .inr (1, [.ref h_p1_sketch, .int p1_nodes, .int p1_allBits, .int p1_isTest, .int p1_isBeaten, .int p1_isStudy, .long p1_order, .int p1_least, .int p1_symmetries, .long p1_firstOrder, .long p1_seen, .int p1_stillEdges])), (h_p1_sketch, .inr (6, [.ref h_p1_sketch_near, .ref h_p1_sketch_fans, .int p1_sketch_nodes, .int p1_sketch_darks, .long p1_sketch_colours])), (h_p1_sketch_fans, aJ T 6 p1_sketch_fans), (h_p1_sketch_near, aI T 6 p1_sketch_near), (h_t, .inr (5, [.int t_size, .int t_hasDark, .int t_words, .int t_ruleLines, .int t_endLines, .int t_most, .int t_bannedCircles, .int t_unlike, .int t_patterns, .ref h_t_patternNodes, .ref h_t_patternCodes, .int t_endsJoined, .int t_fewestEdges, .int t_mostEdges, .int t_least])), (h_t_patternCodes, aI T 2 t_patternCodes), (h_t_patternNodes, aI T 2 t_patternNodes)] := by
        intro p1_allBits p1_firstOrder p1_isBeaten p1_isStudy p1_isTest p1_least p1_nodes p1_order p1_seen p1_stillEdges p1_symmetries p1_sketch_colours p1_sketch_darks p1_sketch_nodes p1_sketch_fans p1_sketch_near t_patternCodes h
        unfold F_X6_formPatterns_56 at h
        exact hret _ _ _ dX6_formPatterns_56 ⟨p1_allBits, p1_firstOrder, p1_isBeaten, p1_isStudy, p1_isTest, p1_least, p1_nodes, p1_order, p1_seen, p1_stillEdges, p1_symmetries, p1_sketch_colours, p1_sketch_darks, p1_sketch_nodes, p1_sketch_fans, p1_sketch_near, t_patternCodes, rfl, h⟩
      refine x_iload_n X dX6_formPatterns_2 2 rfl ?_
      refine x_aload_n X dX6_formPatterns_3 0 rfl ?_
      refine x_get X inGX6 8 (by decide) rfl tw_93 dX6_formPatterns_4 rfl 4 rfl rfl ?_
      refine x_icmp_ge (tgt := 56) X dX6_formPatterns_7 (by decide) (fun hc => ?_) (fun hc => ?_)
      · have h := h.1 hc
        exact x_sub X [] rfl (k56 p1_allBits p1_firstOrder p1_isBeaten p1_isStudy p1_isTest p1_least p1_nodes p1_order p1_seen p1_stillEdges p1_symmetries p1_sketch_colours p1_sketch_darks p1_sketch_nodes p1_sketch_fans p1_sketch_near t_patternCodes h)
      · have h := h.2 hc
        refine x_iload_n X dX6_formPatterns_10 2 rfl ?_
        refine x_aload_n X dX6_formPatterns_11 0 rfl ?_
        refine x_get X inGX6 9 (by decide) rfl tw_94 dX6_formPatterns_12 rfl 4 rfl rfl ?_
        refine x_alen (v := (2 : Int32)) X dX6_formPatterns_15 6 1 rfl rfl rfl ?_
        refine x_icmp_ge (tgt := 56) X dX6_formPatterns_16 (by decide) (fun hc => ?_) (fun hc => ?_)
        · have h := h.1 hc
          exact x_sub X [] rfl (k56 p1_allBits p1_firstOrder p1_isBeaten p1_isStudy p1_isTest p1_least p1_nodes p1_order p1_seen p1_stillEdges p1_symmetries p1_sketch_colours p1_sketch_darks p1_sketch_nodes p1_sketch_fans p1_sketch_near t_patternCodes h)
        · have h := h.2 hc
          refine x_iload_n X dX6_formPatterns_19 2 rfl ?_
          refine x_aload_n X dX6_formPatterns_20 0 rfl ?_
          refine x_get X inGX6 10 (by decide) rfl tw_95 dX6_formPatterns_21 rfl 4 rfl rfl ?_
          refine x_alen (v := (2 : Int32)) X dX6_formPatterns_24 5 1 rfl rfl rfl ?_
          refine x_icmp_ge (tgt := 56) X dX6_formPatterns_25 (by decide) (fun hc => ?_) (fun hc => ?_)
          · have h := h.1 hc
            exact x_sub X [] rfl (k56 p1_allBits p1_firstOrder p1_isBeaten p1_isStudy p1_isTest p1_least p1_nodes p1_order p1_seen p1_stillEdges p1_symmetries p1_sketch_colours p1_sketch_darks p1_sketch_nodes p1_sketch_fans p1_sketch_near t_patternCodes h)
          · have h := h.2 hc
            refine x_aload_n X dX6_formPatterns_28 0 rfl ?_
            refine x_get X inGX6 10 (by decide) rfl tw_95 dX6_formPatterns_29 rfl 4 rfl rfl ?_
            refine x_iload_n X dX6_formPatterns_32 2 rfl ?_
            refine x_aload_n X dX6_formPatterns_33 1 rfl ?_
            refine x_aload_n X dX6_formPatterns_34 0 rfl ?_
            refine x_get X inGX6 9 (by decide) rfl tw_94 dX6_formPatterns_35 rfl 4 rfl rfl ?_
            refine x_iload_n X dX6_formPatterns_38 2 rfl ?_
            obtain ⟨hi, h⟩ := h
            refine x_iald X dX6_formPatterns_39 6 rfl hi ?_
            refine x_aload_n X dX6_formPatterns_40 0 rfl ?_
            refine x_get X inGX6 10 (by decide) rfl tw_95 dX6_formPatterns_41 rfl 4 rfl rfl ?_
            refine x_iload_n X dX6_formPatterns_44 2 rfl ?_
            obtain ⟨hi, h⟩ := h
            refine x_iald X dX6_formPatterns_45 5 rfl hi ?_
            refine x_callVI (av := [.int (t_patternNodes x2.toNatClampNeg), .int (t_patternCodes x2.toNatClampNeg)]) (st := [.int x2, .ref h_t_patternCodes]) (wr := [(h_t, .inr (5, [.int t_size, .int t_hasDark, .int t_words, .int t_ruleLines, .int t_endLines, .int t_most, .int t_bannedCircles, .int t_unlike, .int t_patterns, .ref h_t_patternNodes, .ref h_t_patternCodes, .int t_endsJoined, .int t_fewestEdges, .int t_mostEdges, .int t_least])), (h_t_patternCodes, aI T 2 t_patternCodes), (h_t_patternNodes, aI T 2 t_patternNodes)]) X (c_X2_leastOf l D T h_p1 h_p1_sketch h_p1_sketch_near h_p1_sketch_fans p1_allBits p1_firstOrder p1_isBeaten p1_isStudy p1_isTest p1_least p1_nodes p1_order p1_seen p1_stillEdges p1_symmetries p1_sketch_colours p1_sketch_darks p1_sketch_nodes p1_sketch_fans p1_sketch_near (t_patternNodes x2.toNatClampNeg) (t_patternCodes x2.toNatClampNeg) _ h) yk_X2_leastOf tw_829 dX6_formPatterns_46 0 rfl rfl [0, 1, 2, 3] [4, 5, 6] rfl rfl rfl rfl (by decide) rfl rfl (Nat.le_of_ble_eq_true rfl) (Nat.le_of_ble_eq_true rfl) (Nat.le_of_ble_eq_true rfl) (Nat.zero_le _) (Nat.zero_le _) (fun r46 w1 hw => ?_)
            obtain ⟨p1_allBits_46, p1_firstOrder_46, p1_isBeaten_46, p1_isStudy_46, p1_isTest_46, p1_least_46, p1_nodes_46, p1_order_46, p1_seen_46, p1_stillEdges_46, p1_symmetries_46, p1_sketch_colours_46, p1_sketch_darks_46, p1_sketch_nodes_46, p1_sketch_fans_46, p1_sketch_near_46, rfl, h⟩ := hw
            refine x_perm (ws2 := [(h_p1, .inr (1, [.ref h_p1_sketch, .int p1_nodes_46, .int p1_allBits_46, .int p1_isTest_46, .int p1_isBeaten_46, .int p1_isStudy_46, .long p1_order_46, .int p1_least_46, .int p1_symmetries_46, .long p1_firstOrder_46, .long p1_seen_46, .int p1_stillEdges_46])), (h_p1_sketch, .inr (6, [.ref h_p1_sketch_near, .ref h_p1_sketch_fans, .int p1_sketch_nodes_46, .int p1_sketch_darks_46, .long p1_sketch_colours_46])), (h_p1_sketch_fans, aJ T 6 p1_sketch_fans_46), (h_p1_sketch_near, aI T 6 p1_sketch_near_46), (h_t, .inr (5, [.int t_size, .int t_hasDark, .int t_words, .int t_ruleLines, .int t_endLines, .int t_most, .int t_bannedCircles, .int t_unlike, .int t_patterns, .ref h_t_patternNodes, .ref h_t_patternCodes, .int t_endsJoined, .int t_fewestEdges, .int t_mostEdges, .int t_least])), (h_t_patternCodes, aI T 2 t_patternCodes), (h_t_patternNodes, aI T 2 t_patternNodes)]) X [3, 4, 5, 6, 0, 1, 2] rfl rfl ?_
            obtain ⟨hi, h⟩ := h
            refine x_iast (ws' := [(h_p1, .inr (1, [.ref h_p1_sketch, .int p1_nodes_46, .int p1_allBits_46, .int p1_isTest_46, .int p1_isBeaten_46, .int p1_isStudy_46, .long p1_order_46, .int p1_least_46, .int p1_symmetries_46, .long p1_firstOrder_46, .long p1_seen_46, .int p1_stillEdges_46])), (h_p1_sketch, .inr (6, [.ref h_p1_sketch_near, .ref h_p1_sketch_fans, .int p1_sketch_nodes_46, .int p1_sketch_darks_46, .long p1_sketch_colours_46])), (h_p1_sketch_fans, aJ T 6 p1_sketch_fans_46), (h_p1_sketch_near, aI T 6 p1_sketch_near_46), (h_t, .inr (5, [.int t_size, .int t_hasDark, .int t_words, .int t_ruleLines, .int t_endLines, .int t_most, .int t_bannedCircles, .int t_unlike, .int t_patterns, .ref h_t_patternNodes, .ref h_t_patternCodes, .int t_endsJoined, .int t_fewestEdges, .int t_mostEdges, .int t_least])), (h_t_patternCodes, aI T 2 (upd t_patternCodes x2.toNatClampNeg r46)), (h_t_patternNodes, aI T 2 t_patternNodes)]) X dX6_formPatterns_49 5 rfl hi rfl ?_
            refine x_iinc (v := (x2 + 1)) (lv' := [(2, .int (x2 + 1)), (0, .ref h_t), (1, .ref h_p1)]) X dX6_formPatterns_50 2 rfl rfl (by decide) rfl ?_
            refine x_goto (tgt := 2) X dX6_formPatterns_53 (by decide) ?_
            exact x_sub X [1, 2, 0] rfl (ih2 (x2 + 1) p1_allBits_46 p1_firstOrder_46 p1_isBeaten_46 p1_isStudy_46 p1_isTest_46 p1_least_46 p1_nodes_46 p1_order_46 p1_seen_46 p1_stillEdges_46 p1_symmetries_46 p1_sketch_colours_46 p1_sketch_darks_46 p1_sketch_nodes_46 p1_sketch_fans_46 p1_sketch_near_46 (upd t_patternCodes x2.toNatClampNeg r46) h)
  refine x_iconst (v := 0) X dX6_formPatterns_0 (by decide) ?_
  refine x_istore_n (lv' := [(2, .int (0 : Int32)), (0, .ref h_t), (1, .ref h_p1)]) X dX6_formPatterns_1 (by decide) rfl ?_
  obtain ⟨n2, h⟩ := h
  exact x_sub X [1, 2, 0] rfl (k2 n2 (0 : Int32) p1_allBits p1_firstOrder p1_isBeaten p1_isStudy p1_isTest p1_least p1_nodes p1_order p1_seen p1_stillEdges p1_symmetries p1_sketch_colours p1_sketch_darks p1_sketch_nodes p1_sketch_fans p1_sketch_near t_patternCodes h)
theorem dX6_endsKept_0 : decode cX6_endsKept 0 = .ok (.iload_n 1, 1) := by decide +kernel
theorem dX6_endsKept_1 : decode cX6_endsKept 1 = .ok (.iload_n 2, 1) := by decide +kernel
theorem dX6_endsKept_2 : decode cX6_endsKept 2 = .ok (.invokestatic 101, 3) := by decide +kernel
theorem dX6_endsKept_5 : decode cX6_endsKept 5 = .ok (.istore 4, 2) := by decide +kernel
theorem dX6_endsKept_7 : decode cX6_endsKept 7 = .ok (.iload 4, 2) := by decide +kernel
theorem dX6_endsKept_9 : decode cX6_endsKept 9 = .ok (.aload_n 0, 1) := by decide +kernel
theorem dX6_endsKept_10 : decode cX6_endsKept 10 = .ok (.getfield 53, 3) := by decide +kernel
theorem dX6_endsKept_13 : decode cX6_endsKept 13 = .ok (.if_icmp .lt 42, 3) := by decide +kernel
theorem dX6_endsKept_16 : decode cX6_endsKept 16 = .ok (.iload 4, 2) := by decide +kernel
theorem dX6_endsKept_18 : decode cX6_endsKept 18 = .ok (.aload_n 0, 1) := by decide +kernel
theorem dX6_endsKept_19 : decode cX6_endsKept 19 = .ok (.getfield 56, 3) := by decide +kernel
theorem dX6_endsKept_22 : decode cX6_endsKept 22 = .ok (.if_icmp .gt 33, 3) := by decide +kernel
theorem dX6_endsKept_25 : decode cX6_endsKept 25 = .ok (.aload_n 3, 1) := by decide +kernel
theorem dX6_endsKept_26 : decode cX6_endsKept 26 = .ok (.invokevirtual 104, 3) := by decide +kernel
theorem dX6_endsKept_29 : decode cX6_endsKept 29 = .ok (.aload_n 0, 1) := by decide +kernel
theorem dX6_endsKept_30 : decode cX6_endsKept 30 = .ok (.getfield 59, 3) := by decide +kernel
theorem dX6_endsKept_33 : decode cX6_endsKept 33 = .ok (.if_icmp .lt 22, 3) := by decide +kernel
theorem dX6_endsKept_36 : decode cX6_endsKept 36 = .ok (.aload_n 0, 1) := by decide +kernel
theorem dX6_endsKept_37 : decode cX6_endsKept 37 = .ok (.getfield 50, 3) := by decide +kernel
theorem dX6_endsKept_40 : decode cX6_endsKept 40 = .ok (.ifCond .eq 11, 3) := by decide +kernel
theorem dX6_endsKept_43 : decode cX6_endsKept 43 = .ok (.aload_n 3, 1) := by decide +kernel
theorem dX6_endsKept_44 : decode cX6_endsKept 44 = .ok (.invokevirtual 107, 3) := by decide +kernel
theorem dX6_endsKept_47 : decode cX6_endsKept 47 = .ok (.iconst 1, 1) := by decide +kernel
theorem dX6_endsKept_48 : decode cX6_endsKept 48 = .ok (.if_icmp .gt 7, 3) := by decide +kernel
theorem dX6_endsKept_51 : decode cX6_endsKept 51 = .ok (.iconst 1, 1) := by decide +kernel
theorem dX6_endsKept_52 : decode cX6_endsKept 52 = .ok (.goto 4, 3) := by decide +kernel
theorem dX6_endsKept_55 : decode cX6_endsKept 55 = .ok (.iconst 0, 1) := by decide +kernel
theorem dX6_endsKept_56 : decode cX6_endsKept 56 = .ok (.ireturn, 1) := by decide +kernel
set_option maxHeartbeats 4000000 in
set_option maxRecDepth 100000 in
theorem c_X6_endsKept (l : Launch) (D : eD) (T : Nat → ClassId) (h_p3 h_p3_near h_p3_fans h_t h_t_patternNodes h_t_patternCodes : Nat) (p3_colours : Int64) (p3_darks : Int32) (p3_nodes : Int32) (p3_near : Nat → Int32) (t_bannedCircles : Int32) (t_endLines : Int32) (t_endsJoined : Int32) (t_fewestEdges : Int32) (t_hasDark : Int32) (t_least : Int32) (t_most : Int32) (t_mostEdges : Int32) (t_patterns : Int32) (t_ruleLines : Int32) (t_size : Int32) (t_unlike : Int32) (t_words : Int32) (p1 : Int32) (p2 : Int32) (post : Int32 → Prop) (h : F_X6_endsKept p3_nodes p3_near t_endsJoined t_fewestEdges t_least t_mostEdges p1 p2 post) : cI l D T yX6_endsKept cX6_endsKept 5 (some .boolean) 5 104 0 0 [.ref h_t, .int p1, .int p2, .ref h_p3] [(h_p3, .inr (6, [.ref h_p3_near, .ref h_p3_fans, .int p3_nodes, .int p3_darks, .long p3_colours])), (h_p3_near, aI T 6 p3_near), (h_t, .inr (5, [.int t_size, .int t_hasDark, .int t_words, .int t_ruleLines, .int t_endLines, .int t_most, .int t_bannedCircles, .int t_unlike, .int t_patterns, .ref h_t_patternNodes, .ref h_t_patternCodes, .int t_endsJoined, .int t_fewestEdges, .int t_mostEdges, .int t_least]))] (fun r w1 => w1 = [(h_p3, .inr (6, [.ref h_p3_near, .ref h_p3_fans, .int p3_nodes, .int p3_darks, .long p3_colours])), (h_p3_near, aI T 6 p3_near), (h_t, .inr (5, [.int t_size, .int t_hasDark, .int t_words, .int t_ruleLines, .int t_endLines, .int t_most, .int t_bannedCircles, .int t_unlike, .int t_patterns, .ref h_t_patternNodes, .ref h_t_patternCodes, .int t_endsJoined, .int t_fewestEdges, .int t_mostEdges, .int t_least]))] ∧ post r ) := by
  refine xI_of (ty := .boolean) (by decide +kernel) (Nat.le_of_ble_eq_true rfl) rfl ?_
  intro G X hret
  change G 0 0 0 [(0, .ref h_t), (1, .int p1), (2, .int p2), (3, .ref h_p3)] [] [(h_p3, .inr (6, [.ref h_p3_near, .ref h_p3_fans, .int p3_nodes, .int p3_darks, .long p3_colours])), (h_p3_near, aI T 6 p3_near), (h_t, .inr (5, [.int t_size, .int t_hasDark, .int t_words, .int t_ruleLines, .int t_endLines, .int t_most, .int t_bannedCircles, .int t_unlike, .int t_patterns, .ref h_t_patternNodes, .ref h_t_patternCodes, .int t_endsJoined, .int t_fewestEdges, .int t_mostEdges, .int t_least]))]
  unfold F_X6_endsKept at h
  have k56 : ∀ (s0 : Int32), F_X6_endsKept_56 p3_nodes p3_near t_endsJoined t_fewestEdges t_least t_mostEdges post s0 → G 0 0 56 [] [.int s0] [(h_p3, .inr (6, [.ref h_p3_near, .ref h_p3_fans, .int p3_nodes, .int p3_darks, .long p3_colours])), (h_p3_near, aI T 6 p3_near), (h_t, .inr (5, [.int t_size, .int t_hasDark, .int t_words, .int t_ruleLines, .int t_endLines, .int t_most, .int t_bannedCircles, .int t_unlike, .int t_patterns, .ref h_t_patternNodes, .ref h_t_patternCodes, .int t_endsJoined, .int t_fewestEdges, .int t_mostEdges, .int t_least]))] := by
    intro s0 h
    unfold F_X6_endsKept_56 at h
    obtain ⟨hz, h⟩ := h
    exact hret _ _ _ _ dX6_endsKept_56 (e_nz hz) ⟨rfl, h⟩
  have k51 : F_X6_endsKept_51 p3_nodes p3_near t_endsJoined t_fewestEdges t_least t_mostEdges post (fun s0 => F_X6_endsKept_56 p3_nodes p3_near t_endsJoined t_fewestEdges t_least t_mostEdges post s0) → G 0 0 51 [] [] [(h_p3, .inr (6, [.ref h_p3_near, .ref h_p3_fans, .int p3_nodes, .int p3_darks, .long p3_colours])), (h_p3_near, aI T 6 p3_near), (h_t, .inr (5, [.int t_size, .int t_hasDark, .int t_words, .int t_ruleLines, .int t_endLines, .int t_most, .int t_bannedCircles, .int t_unlike, .int t_patterns, .ref h_t_patternNodes, .ref h_t_patternCodes, .int t_endsJoined, .int t_fewestEdges, .int t_mostEdges, .int t_least]))] := by
    intro  h
    unfold F_X6_endsKept_51 at h
    refine x_iconst (v := 1) X dX6_endsKept_51 (by decide) ?_
    refine x_goto (tgt := 56) X dX6_endsKept_52 (by decide) ?_
    exact x_sub X [] rfl (k56 (1 : Int32) h)
  have k55 : F_X6_endsKept_55 p3_nodes p3_near t_endsJoined t_fewestEdges t_least t_mostEdges post (fun s0 => F_X6_endsKept_56 p3_nodes p3_near t_endsJoined t_fewestEdges t_least t_mostEdges post s0) → G 0 0 55 [] [] [(h_p3, .inr (6, [.ref h_p3_near, .ref h_p3_fans, .int p3_nodes, .int p3_darks, .long p3_colours])), (h_p3_near, aI T 6 p3_near), (h_t, .inr (5, [.int t_size, .int t_hasDark, .int t_words, .int t_ruleLines, .int t_endLines, .int t_most, .int t_bannedCircles, .int t_unlike, .int t_patterns, .ref h_t_patternNodes, .ref h_t_patternCodes, .int t_endsJoined, .int t_fewestEdges, .int t_mostEdges, .int t_least]))] := by
    intro  h
    unfold F_X6_endsKept_55 at h
    refine x_iconst (v := 0) X dX6_endsKept_55 (by decide) ?_
    exact x_sub X [] rfl (k56 (0 : Int32) h)
  refine x_iload_n X dX6_endsKept_0 1 rfl ?_
  refine x_iload_n X dX6_endsKept_1 2 rfl ?_
  refine x_callSI (av := [.int p1, .int p2]) (st := []) (wr := [(h_p3, .inr (6, [.ref h_p3_near, .ref h_p3_fans, .int p3_nodes, .int p3_darks, .long p3_colours])), (h_p3_near, aI T 6 p3_near), (h_t, .inr (5, [.int t_size, .int t_hasDark, .int t_words, .int t_ruleLines, .int t_endLines, .int t_most, .int t_bannedCircles, .int t_unlike, .int t_patterns, .ref h_t_patternNodes, .ref h_t_patternCodes, .int t_endsJoined, .int t_fewestEdges, .int t_mostEdges, .int t_least]))]) X (c_X0_edges l D T  p1 p2 _ h) yk_X0_edges tw_536 dX6_endsKept_2 [] [0, 1, 2] rfl rfl rfl rfl (by decide) rfl rfl (Nat.le_of_ble_eq_true rfl) (Nat.le_of_ble_eq_true rfl) (Nat.le_of_ble_eq_true rfl) (Nat.zero_le _) (Nat.zero_le _) (fun r2 w1 hw => ?_)
  obtain ⟨rfl, h⟩ := hw
  refine x_perm (ws2 := [(h_p3, .inr (6, [.ref h_p3_near, .ref h_p3_fans, .int p3_nodes, .int p3_darks, .long p3_colours])), (h_p3_near, aI T 6 p3_near), (h_t, .inr (5, [.int t_size, .int t_hasDark, .int t_words, .int t_ruleLines, .int t_endLines, .int t_most, .int t_bannedCircles, .int t_unlike, .int t_patterns, .ref h_t_patternNodes, .ref h_t_patternCodes, .int t_endsJoined, .int t_fewestEdges, .int t_mostEdges, .int t_least]))]) X [0, 1, 2] rfl rfl ?_
  refine x_istore (lv' := [(4, .int r2), (0, .ref h_t), (1, .int p1), (2, .int p2), (3, .ref h_p3)]) X dX6_endsKept_5 (by decide) rfl ?_
  refine x_iload X dX6_endsKept_7 0 rfl ?_
  refine x_aload_n X dX6_endsKept_9 1 rfl ?_
  refine x_get X inGX6 12 (by decide) rfl tw_98 dX6_endsKept_10 rfl 2 rfl rfl ?_
  refine x_icmp_lt (tgt := 55) X dX6_endsKept_13 (by decide) (fun hc => ?_) (fun hc => ?_)
  · have h := h.1 hc
    exact x_sub X [] rfl (k55 h)
  · have h := h.2 hc
    refine x_iload X dX6_endsKept_16 0 rfl ?_
    refine x_aload_n X dX6_endsKept_18 1 rfl ?_
    refine x_get X inGX6 13 (by decide) rfl tw_100 dX6_endsKept_19 rfl 2 rfl rfl ?_
    refine x_icmp_gt (tgt := 55) X dX6_endsKept_22 (by decide) (fun hc => ?_) (fun hc => ?_)
    · have h := h.1 hc
      exact x_sub X [] rfl (k55 h)
    · have h := h.2 hc
      refine x_aload_n X dX6_endsKept_25 4 rfl ?_
      refine x_callVI (av := []) (st := []) (wr := [(h_t, .inr (5, [.int t_size, .int t_hasDark, .int t_words, .int t_ruleLines, .int t_endLines, .int t_most, .int t_bannedCircles, .int t_unlike, .int t_patterns, .ref h_t_patternNodes, .ref h_t_patternCodes, .int t_endsJoined, .int t_fewestEdges, .int t_mostEdges, .int t_least]))]) X (c_X7_leastNear l D T h_p3 h_p3_near h_p3_fans p3_colours p3_darks p3_nodes p3_near _ h) yk_X7_leastNear tw_541 dX6_endsKept_26 0 rfl rfl [0, 1] [2] rfl rfl rfl rfl (by decide) rfl rfl (Nat.le_of_ble_eq_true rfl) (Nat.le_of_ble_eq_true rfl) (Nat.le_of_ble_eq_true rfl) (Nat.zero_le _) (Nat.zero_le _) (fun r26 w1 hw => ?_)
      obtain ⟨rfl, h⟩ := hw
      refine x_perm (ws2 := [(h_p3, .inr (6, [.ref h_p3_near, .ref h_p3_fans, .int p3_nodes, .int p3_darks, .long p3_colours])), (h_p3_near, aI T 6 p3_near), (h_t, .inr (5, [.int t_size, .int t_hasDark, .int t_words, .int t_ruleLines, .int t_endLines, .int t_most, .int t_bannedCircles, .int t_unlike, .int t_patterns, .ref h_t_patternNodes, .ref h_t_patternCodes, .int t_endsJoined, .int t_fewestEdges, .int t_mostEdges, .int t_least]))]) X [1, 2, 0] rfl rfl ?_
      refine x_aload_n X dX6_endsKept_29 1 rfl ?_
      refine x_get X inGX6 14 (by decide) rfl tw_102 dX6_endsKept_30 rfl 2 rfl rfl ?_
      refine x_icmp_lt (tgt := 55) X dX6_endsKept_33 (by decide) (fun hc => ?_) (fun hc => ?_)
      · have h := h.1 hc
        exact x_sub X [] rfl (k55 h)
      · have h := h.2 hc
        refine x_aload_n X dX6_endsKept_36 1 rfl ?_
        refine x_get X inGX6 11 (by decide) rfl tw_96 dX6_endsKept_37 rfl 2 rfl rfl ?_
        refine x_if_eq (tgt := 51) X dX6_endsKept_40 (by decide) (fun hc => ?_) (fun hc => ?_)
        · have h := h.1 hc
          exact x_sub X [] rfl (k51 h)
        · have h := h.2 hc
          refine x_aload_n X dX6_endsKept_43 4 rfl ?_
          refine x_callVI (av := []) (st := []) (wr := [(h_t, .inr (5, [.int t_size, .int t_hasDark, .int t_words, .int t_ruleLines, .int t_endLines, .int t_most, .int t_bannedCircles, .int t_unlike, .int t_patterns, .ref h_t_patternNodes, .ref h_t_patternCodes, .int t_endsJoined, .int t_fewestEdges, .int t_mostEdges, .int t_least]))]) X (c_X7_pieces l D T h_p3 h_p3_near h_p3_fans p3_colours p3_darks p3_nodes p3_near _ h) yk_X7_pieces tw_545 dX6_endsKept_44 0 rfl rfl [0, 1] [2] rfl rfl rfl rfl (by decide) rfl rfl (Nat.le_of_ble_eq_true rfl) (Nat.le_of_ble_eq_true rfl) (Nat.le_of_ble_eq_true rfl) (Nat.zero_le _) (Nat.zero_le _) (fun r44 w1 hw => ?_)
          obtain ⟨rfl, h⟩ := hw
          refine x_perm (ws2 := [(h_p3, .inr (6, [.ref h_p3_near, .ref h_p3_fans, .int p3_nodes, .int p3_darks, .long p3_colours])), (h_p3_near, aI T 6 p3_near), (h_t, .inr (5, [.int t_size, .int t_hasDark, .int t_words, .int t_ruleLines, .int t_endLines, .int t_most, .int t_bannedCircles, .int t_unlike, .int t_patterns, .ref h_t_patternNodes, .ref h_t_patternCodes, .int t_endsJoined, .int t_fewestEdges, .int t_mostEdges, .int t_least]))]) X [1, 2, 0] rfl rfl ?_
          refine x_iconst (v := 1) X dX6_endsKept_47 (by decide) ?_
          refine x_icmp_gt (tgt := 55) X dX6_endsKept_48 (by decide) (fun hc => ?_) (fun hc => ?_)
          · have h := h.1 hc
            exact x_sub X [] rfl (k55 h)
          · have h := h.2 hc
            exact x_sub X [] rfl (k51 h)
