/-! OrderlyNets$Texts: decode rows (printed), and each method kept by its F -/
theorem dX9_hasEnded_0 : decode cX9_hasEnded 0 = .ok (.aload_n 0, 1) := by decide +kernel
theorem dX9_hasEnded_1 : decode cX9_hasEnded 1 = .ok (.invokevirtual 38, 3) := by decide +kernel
theorem dX9_hasEnded_4 : decode cX9_hasEnded 4 = .ok (.ifCond .ne 5, 3) := by decide +kernel
theorem dX9_hasEnded_7 : decode cX9_hasEnded 7 = .ok (.iconst 1, 1) := by decide +kernel
theorem dX9_hasEnded_8 : decode cX9_hasEnded 8 = .ok (.ireturn, 1) := by decide +kernel
theorem dX9_hasEnded_9 : decode cX9_hasEnded 9 = .ok (.aload_n 0, 1) := by decide +kernel
theorem dX9_hasEnded_10 : decode cX9_hasEnded 10 = .ok (.bipush 59, 2) := by decide +kernel
theorem dX9_hasEnded_12 : decode cX9_hasEnded 12 = .ok (.invokevirtual 42, 3) := by decide +kernel
theorem dX9_hasEnded_15 : decode cX9_hasEnded 15 = .ok (.ifCond .eq 8, 3) := by decide +kernel
theorem dX9_hasEnded_18 : decode cX9_hasEnded 18 = .ok (.aload_n 0, 1) := by decide +kernel
theorem dX9_hasEnded_19 : decode cX9_hasEnded 19 = .ok (.invokevirtual 38, 3) := by decide +kernel
theorem dX9_hasEnded_22 : decode cX9_hasEnded 22 = .ok (.pop, 1) := by decide +kernel
theorem dX9_hasEnded_23 : decode cX9_hasEnded 23 = .ok (.iconst 0, 1) := by decide +kernel
theorem dX9_hasEnded_24 : decode cX9_hasEnded 24 = .ok (.ireturn, 1) := by decide +kernel
set_option maxHeartbeats 4000000 in
set_option maxRecDepth 100000 in
theorem c_X9_hasEnded (l : Launch) (D : eD) (T : Nat → ClassId) (h_p0 h_p0_bytes : Nat) (p0_begun : Int32) (p0_length : Int32) (p0_position : Int32) (p0_wrong : Int32) (p0_bytes : Nat → Int32) (post : Int32 → Int32 → Int32 → Prop) (h : F_X9_hasEnded p0_length p0_bytes p0_begun p0_position post) : cI l D T yX9_hasEnded cX9_hasEnded 1 (some .boolean) 3 62 0 0 [.ref h_p0] [(h_p0, .inr (7, [.ref h_p0_bytes, .int p0_length, .int p0_position, .int p0_begun, .int p0_wrong])), (h_p0_bytes, aI T 400 p0_bytes)] (fun r w1 => ∃ (p0_begun1 : Int32) (p0_position1 : Int32), w1 = [(h_p0, .inr (7, [.ref h_p0_bytes, .int p0_length, .int p0_position1, .int p0_begun1, .int p0_wrong])), (h_p0_bytes, aI T 400 p0_bytes)] ∧ post r p0_begun1 p0_position1) := by
  refine xI_of (ty := .boolean) (by decide +kernel) (Nat.le_of_ble_eq_true rfl) rfl ?_
  intro G X hret
  change G 0 0 0 [(0, .ref h_p0)] [] [(h_p0, .inr (7, [.ref h_p0_bytes, .int p0_length, .int p0_position, .int p0_begun, .int p0_wrong])), (h_p0_bytes, aI T 400 p0_bytes)]
  unfold F_X9_hasEnded at h
  have k23 : ∀ (p0_begun : Int32) (p0_position : Int32), F_X9_hasEnded_23 p0_length p0_bytes post p0_begun p0_position → G 0 0 23 [] [] [(h_p0, .inr (7, [.ref h_p0_bytes, .int p0_length, .int p0_position, .int p0_begun, .int p0_wrong])), (h_p0_bytes, aI T 400 p0_bytes)] := by
    intro p0_begun p0_position h
    unfold F_X9_hasEnded_23 at h
    refine x_iconst (v := 0) X dX9_hasEnded_23 (by decide) ?_
    obtain ⟨hz, h⟩ := h
    exact hret _ _ _ _ dX9_hasEnded_24 (e_nz hz) ⟨p0_begun, p0_position, rfl, h⟩
  refine x_aload_n X dX9_hasEnded_0 0 rfl ?_
  refine x_callVI (av := []) (st := []) (wr := []) X (c_X8_goesOn l D T h_p0 h_p0_bytes p0_begun p0_length p0_position p0_wrong p0_bytes _ h) yk_X8_goesOn tw_696 dX9_hasEnded_1 0 rfl rfl [0, 1] [] rfl rfl rfl rfl (by decide) rfl rfl (Nat.le_of_ble_eq_true rfl) (Nat.le_of_ble_eq_true rfl) (Nat.le_of_ble_eq_true rfl) (Nat.zero_le _) (Nat.zero_le _) (fun r1 w1 hw => ?_)
  obtain ⟨p0_begun_1, p0_position_1, rfl, h⟩ := hw
  refine x_perm (ws2 := [(h_p0, .inr (7, [.ref h_p0_bytes, .int p0_length, .int p0_position_1, .int p0_begun_1, .int p0_wrong])), (h_p0_bytes, aI T 400 p0_bytes)]) X [0, 1] rfl rfl ?_
  refine x_if_ne (tgt := 9) X dX9_hasEnded_4 (by decide) (fun hc => ?_) (fun hc => ?_)
  · have h := h.1 hc
    refine x_aload_n X dX9_hasEnded_9 0 rfl ?_
    refine x_bipush (v := 59) X dX9_hasEnded_10 (by decide) ?_
    refine x_callVI (av := [.int (59 : Int32)]) (st := []) (wr := []) X (c_X8_takesSign l D T h_p0 h_p0_bytes p0_begun_1 p0_length p0_position_1 p0_wrong p0_bytes (59 : Int32) _ h) yk_X8_takesSign tw_700 dX9_hasEnded_12 0 rfl rfl [0, 1] [] rfl rfl rfl rfl (by decide) rfl rfl (Nat.le_of_ble_eq_true rfl) (Nat.le_of_ble_eq_true rfl) (Nat.le_of_ble_eq_true rfl) (Nat.zero_le _) (Nat.zero_le _) (fun r12 w1 hw => ?_)
    obtain ⟨p0_begun_12, p0_position_12, rfl, h⟩ := hw
    refine x_perm (ws2 := [(h_p0, .inr (7, [.ref h_p0_bytes, .int p0_length, .int p0_position_12, .int p0_begun_12, .int p0_wrong])), (h_p0_bytes, aI T 400 p0_bytes)]) X [0, 1] rfl rfl ?_
    refine x_if_eq (tgt := 23) X dX9_hasEnded_15 (by decide) (fun hc => ?_) (fun hc => ?_)
    · have h := h.1 hc
      exact x_sub X [] rfl (k23 p0_begun_12 p0_position_12 h)
    · have h := h.2 hc
      refine x_aload_n X dX9_hasEnded_18 0 rfl ?_
      refine x_callVI (av := []) (st := []) (wr := []) X (c_X8_goesOn l D T h_p0 h_p0_bytes p0_begun_12 p0_length p0_position_12 p0_wrong p0_bytes _ h) yk_X8_goesOn tw_696 dX9_hasEnded_19 0 rfl rfl [0, 1] [] rfl rfl rfl rfl (by decide) rfl rfl (Nat.le_of_ble_eq_true rfl) (Nat.le_of_ble_eq_true rfl) (Nat.le_of_ble_eq_true rfl) (Nat.zero_le _) (Nat.zero_le _) (fun r19 w1 hw => ?_)
      obtain ⟨p0_begun_19, p0_position_19, rfl, h⟩ := hw
      refine x_perm (ws2 := [(h_p0, .inr (7, [.ref h_p0_bytes, .int p0_length, .int p0_position_19, .int p0_begun_19, .int p0_wrong])), (h_p0_bytes, aI T 400 p0_bytes)]) X [0, 1] rfl rfl ?_
      refine x_pop X dX9_hasEnded_22 rfl ?_
      exact x_sub X [] rfl (k23 p0_begun_19 p0_position_19 h)
  · have h := h.2 hc
    refine x_iconst (v := 1) X dX9_hasEnded_7 (by decide) ?_
    exact hret _ _ _ _ dX9_hasEnded_8 rfl ⟨p0_begun_1, p0_position_1, rfl, h⟩
theorem dX9_readBounds_0 : decode cX9_readBounds 0 = .ok (.aload_n 1, 1) := by decide +kernel
theorem dX9_readBounds_1 : decode cX9_readBounds 1 = .ok (.aload_n 0, 1) := by decide +kernel
theorem dX9_readBounds_2 : decode cX9_readBounds 2 = .ok (.iconst 0, 1) := by decide +kernel
theorem dX9_readBounds_3 : decode cX9_readBounds 3 = .ok (.bipush 15, 2) := by decide +kernel
theorem dX9_readBounds_5 : decode cX9_readBounds 5 = .ok (.invokevirtual 22, 3) := by decide +kernel
theorem dX9_readBounds_8 : decode cX9_readBounds 8 = .ok (.putfield 119, 3) := by decide +kernel
theorem dX9_readBounds_11 : decode cX9_readBounds 11 = .ok (.aload_n 1, 1) := by decide +kernel
theorem dX9_readBounds_12 : decode cX9_readBounds 12 = .ok (.getfield 119, 3) := by decide +kernel
theorem dX9_readBounds_15 : decode cX9_readBounds 15 = .ok (.iconst (-1), 1) := by decide +kernel
theorem dX9_readBounds_16 : decode cX9_readBounds 16 = .ok (.if_icmp .eq 12, 3) := by decide +kernel
theorem dX9_readBounds_19 : decode cX9_readBounds 19 = .ok (.aload_n 0, 1) := by decide +kernel
theorem dX9_readBounds_20 : decode cX9_readBounds 20 = .ok (.ldc 122, 2) := by decide +kernel
theorem dX9_readBounds_22 : decode cX9_readBounds 22 = .ok (.invokevirtual 16, 3) := by decide +kernel
theorem dX9_readBounds_25 : decode cX9_readBounds 25 = .ok (.ifCond .ne 5, 3) := by decide +kernel
theorem dX9_readBounds_28 : decode cX9_readBounds 28 = .ok (.iconst 0, 1) := by decide +kernel
theorem dX9_readBounds_29 : decode cX9_readBounds 29 = .ok (.ireturn, 1) := by decide +kernel
theorem dX9_readBounds_30 : decode cX9_readBounds 30 = .ok (.aload_n 1, 1) := by decide +kernel
theorem dX9_readBounds_31 : decode cX9_readBounds 31 = .ok (.aload_n 0, 1) := by decide +kernel
theorem dX9_readBounds_32 : decode cX9_readBounds 32 = .ok (.aload_n 1, 1) := by decide +kernel
theorem dX9_readBounds_33 : decode cX9_readBounds 33 = .ok (.getfield 119, 3) := by decide +kernel
theorem dX9_readBounds_36 : decode cX9_readBounds 36 = .ok (.bipush 15, 2) := by decide +kernel
theorem dX9_readBounds_38 : decode cX9_readBounds 38 = .ok (.invokevirtual 22, 3) := by decide +kernel
theorem dX9_readBounds_41 : decode cX9_readBounds 41 = .ok (.putfield 124, 3) := by decide +kernel
theorem dX9_readBounds_44 : decode cX9_readBounds 44 = .ok (.aload_n 1, 1) := by decide +kernel
theorem dX9_readBounds_45 : decode cX9_readBounds 45 = .ok (.getfield 124, 3) := by decide +kernel
theorem dX9_readBounds_48 : decode cX9_readBounds 48 = .ok (.iconst (-1), 1) := by decide +kernel
theorem dX9_readBounds_49 : decode cX9_readBounds 49 = .ok (.if_icmp .eq 7, 3) := by decide +kernel
theorem dX9_readBounds_52 : decode cX9_readBounds 52 = .ok (.iconst 1, 1) := by decide +kernel
theorem dX9_readBounds_53 : decode cX9_readBounds 53 = .ok (.goto 4, 3) := by decide +kernel
theorem dX9_readBounds_56 : decode cX9_readBounds 56 = .ok (.iconst 0, 1) := by decide +kernel
theorem dX9_readBounds_57 : decode cX9_readBounds 57 = .ok (.ireturn, 1) := by decide +kernel
set_option maxHeartbeats 4000000 in
set_option maxRecDepth 100000 in
theorem c_X9_readBounds (l : Launch) (D : eD) (T : Nat → ClassId) (h_p0 h_p0_bytes h_p1 h_p1_patternNodes h_p1_patternCodes : Nat) (p0_begun : Int32) (p0_length : Int32) (p0_position : Int32) (p0_wrong : Int32) (p0_bytes : Nat → Int32) (p1_bannedCircles : Int32) (p1_endLines : Int32) (p1_endsJoined : Int32) (p1_fewestEdges : Int32) (p1_hasDark : Int32) (p1_least : Int32) (p1_most : Int32) (p1_mostEdges : Int32) (p1_patterns : Int32) (p1_ruleLines : Int32) (p1_size : Int32) (p1_unlike : Int32) (p1_words : Int32) (post : Int32 → Int32 → Int32 → Int32 → Int32 → Prop) (h : F_X9_readBounds p0_length p0_bytes p0_begun p0_position p1_fewestEdges p1_mostEdges post) : cI l D T yX9_readBounds cX9_readBounds 2 (some .boolean) 6 163 0 0 [.ref h_p0, .ref h_p1] [(h_p0, .inr (7, [.ref h_p0_bytes, .int p0_length, .int p0_position, .int p0_begun, .int p0_wrong])), (h_p0_bytes, aI T 400 p0_bytes), (h_p1, .inr (5, [.int p1_size, .int p1_hasDark, .int p1_words, .int p1_ruleLines, .int p1_endLines, .int p1_most, .int p1_bannedCircles, .int p1_unlike, .int p1_patterns, .ref h_p1_patternNodes, .ref h_p1_patternCodes, .int p1_endsJoined, .int p1_fewestEdges, .int p1_mostEdges, .int p1_least]))] (fun r w1 => ∃ (p0_begun1 : Int32) (p0_position1 : Int32) (p1_fewestEdges1 : Int32) (p1_mostEdges1 : Int32), w1 = [(h_p0, .inr (7, [.ref h_p0_bytes, .int p0_length, .int p0_position1, .int p0_begun1, .int p0_wrong])), (h_p0_bytes, aI T 400 p0_bytes), (h_p1, .inr (5, [.int p1_size, .int p1_hasDark, .int p1_words, .int p1_ruleLines, .int p1_endLines, .int p1_most, .int p1_bannedCircles, .int p1_unlike, .int p1_patterns, .ref h_p1_patternNodes, .ref h_p1_patternCodes, .int p1_endsJoined, .int p1_fewestEdges1, .int p1_mostEdges1, .int p1_least]))] ∧ post r p0_begun1 p0_position1 p1_fewestEdges1 p1_mostEdges1) := by
  refine xI_of (ty := .boolean) (by decide +kernel) (Nat.le_of_ble_eq_true rfl) rfl ?_
  intro G X hret
  change G 0 0 0 [(0, .ref h_p0), (1, .ref h_p1)] [] [(h_p0, .inr (7, [.ref h_p0_bytes, .int p0_length, .int p0_position, .int p0_begun, .int p0_wrong])), (h_p0_bytes, aI T 400 p0_bytes), (h_p1, .inr (5, [.int p1_size, .int p1_hasDark, .int p1_words, .int p1_ruleLines, .int p1_endLines, .int p1_most, .int p1_bannedCircles, .int p1_unlike, .int p1_patterns, .ref h_p1_patternNodes, .ref h_p1_patternCodes, .int p1_endsJoined, .int p1_fewestEdges, .int p1_mostEdges, .int p1_least]))]
  unfold F_X9_readBounds at h
  have k28 : ∀ (p0_begun : Int32) (p0_position : Int32) (p1_fewestEdges : Int32) (p1_mostEdges : Int32), F_X9_readBounds_28 p0_length p0_bytes post p0_begun p0_position p1_fewestEdges p1_mostEdges → G 0 0 28 [] [] [(h_p0, .inr (7, [.ref h_p0_bytes, .int p0_length, .int p0_position, .int p0_begun, .int p0_wrong])), (h_p0_bytes, aI T 400 p0_bytes), (h_p1, .inr (5, [.int p1_size, .int p1_hasDark, .int p1_words, .int p1_ruleLines, .int p1_endLines, .int p1_most, .int p1_bannedCircles, .int p1_unlike, .int p1_patterns, .ref h_p1_patternNodes, .ref h_p1_patternCodes, .int p1_endsJoined, .int p1_fewestEdges, .int p1_mostEdges, .int p1_least]))] := by
    intro p0_begun p0_position p1_fewestEdges p1_mostEdges h
    unfold F_X9_readBounds_28 at h
    refine x_iconst (v := 0) X dX9_readBounds_28 (by decide) ?_
    obtain ⟨hz, h⟩ := h
    exact hret _ _ _ _ dX9_readBounds_29 (e_nz hz) ⟨p0_begun, p0_position, p1_fewestEdges, p1_mostEdges, rfl, h⟩
  have k57 : ∀ (s0 : Int32) (p0_begun : Int32) (p0_position : Int32) (p1_fewestEdges : Int32) (p1_mostEdges : Int32), F_X9_readBounds_57 p0_length p0_bytes post s0 p0_begun p0_position p1_fewestEdges p1_mostEdges → G 0 0 57 [] [.int s0] [(h_p0, .inr (7, [.ref h_p0_bytes, .int p0_length, .int p0_position, .int p0_begun, .int p0_wrong])), (h_p0_bytes, aI T 400 p0_bytes), (h_p1, .inr (5, [.int p1_size, .int p1_hasDark, .int p1_words, .int p1_ruleLines, .int p1_endLines, .int p1_most, .int p1_bannedCircles, .int p1_unlike, .int p1_patterns, .ref h_p1_patternNodes, .ref h_p1_patternCodes, .int p1_endsJoined, .int p1_fewestEdges, .int p1_mostEdges, .int p1_least]))] := by
    intro s0 p0_begun p0_position p1_fewestEdges p1_mostEdges h
    unfold F_X9_readBounds_57 at h
    obtain ⟨hz, h⟩ := h
    exact hret _ _ _ _ dX9_readBounds_57 (e_nz hz) ⟨p0_begun, p0_position, p1_fewestEdges, p1_mostEdges, rfl, h⟩
  refine x_aload_n X dX9_readBounds_0 1 rfl ?_
  refine x_aload_n X dX9_readBounds_1 0 rfl ?_
  refine x_iconst (v := 0) X dX9_readBounds_2 (by decide) ?_
  refine x_bipush (v := 15) X dX9_readBounds_3 (by decide) ?_
  refine x_callVI (av := [.int (0 : Int32), .int (15 : Int32)]) (st := [.ref h_p1]) (wr := [(h_p1, .inr (5, [.int p1_size, .int p1_hasDark, .int p1_words, .int p1_ruleLines, .int p1_endLines, .int p1_most, .int p1_bannedCircles, .int p1_unlike, .int p1_patterns, .ref h_p1_patternNodes, .ref h_p1_patternCodes, .int p1_endsJoined, .int p1_fewestEdges, .int p1_mostEdges, .int p1_least]))]) X (c_X8_takeNumber l D T h_p0 h_p0_bytes p0_begun p0_length p0_position p0_wrong p0_bytes (0 : Int32) (15 : Int32) _ h) yk_X8_takeNumber tw_687 dX9_readBounds_5 0 rfl rfl [0, 1] [2] rfl rfl rfl rfl (by decide) rfl rfl (Nat.le_of_ble_eq_true rfl) (Nat.le_of_ble_eq_true rfl) (Nat.le_of_ble_eq_true rfl) (Nat.zero_le _) (Nat.zero_le _) (fun r5 w1 hw => ?_)
  obtain ⟨p0_begun_5, p0_position_5, rfl, h⟩ := hw
  refine x_perm (ws2 := [(h_p0, .inr (7, [.ref h_p0_bytes, .int p0_length, .int p0_position_5, .int p0_begun_5, .int p0_wrong])), (h_p0_bytes, aI T 400 p0_bytes), (h_p1, .inr (5, [.int p1_size, .int p1_hasDark, .int p1_words, .int p1_ruleLines, .int p1_endLines, .int p1_most, .int p1_bannedCircles, .int p1_unlike, .int p1_patterns, .ref h_p1_patternNodes, .ref h_p1_patternCodes, .int p1_endsJoined, .int p1_fewestEdges, .int p1_mostEdges, .int p1_least]))]) X [1, 2, 0] rfl rfl ?_
  refine x_putN (ws' := [(h_p0, .inr (7, [.ref h_p0_bytes, .int p0_length, .int p0_position_5, .int p0_begun_5, .int p0_wrong])), (h_p0_bytes, aI T 400 p0_bytes), (h_p1, .inr (5, [.int p1_size, .int p1_hasDark, .int p1_words, .int p1_ruleLines, .int p1_endLines, .int p1_most, .int p1_bannedCircles, .int p1_unlike, .int p1_patterns, .ref h_p1_patternNodes, .ref h_p1_patternCodes, .int p1_endsJoined, .int r5, .int p1_mostEdges, .int p1_least]))]) X inGX6 tyX6_ok nmX6 12 (by decide) rfl tw_99 dX9_readBounds_8 rfl rfl 2 rfl rfl rfl (Nat.le_of_ble_eq_true rfl) rfl ?_
  refine x_aload_n X dX9_readBounds_11 1 rfl ?_
  refine x_getN X inGX6 12 (by decide) rfl tw_99 dX9_readBounds_12 rfl 2 rfl rfl ?_
  refine x_iconst (v := -1) X dX9_readBounds_15 (by decide) ?_
  refine x_icmp_eq (tgt := 28) X dX9_readBounds_16 (by decide) (fun hc => ?_) (fun hc => ?_)
  · have h := h.1 hc
    exact x_sub X [] rfl (k28 p0_begun_5 p0_position_5 r5 p1_mostEdges h)
  · have h := h.2 hc
    refine x_aload_n X dX9_readBounds_19 0 rfl ?_
    refine x_ldcS X 5 (by decide) rfl rfl dX9_readBounds_20 ?_
    refine x_callVI (av := [.ref (D.2.1 5)]) (st := []) (wr := [(h_p1, .inr (5, [.int p1_size, .int p1_hasDark, .int p1_words, .int p1_ruleLines, .int p1_endLines, .int p1_most, .int p1_bannedCircles, .int p1_unlike, .int p1_patterns, .ref h_p1_patternNodes, .ref h_p1_patternCodes, .int p1_endsJoined, .int r5, .int p1_mostEdges, .int p1_least]))]) X (c_X8_takesWord l D T h_p0 h_p0_bytes p0_begun_5 p0_length p0_position_5 p0_wrong p0_bytes 5 _ h) yk_X8_takesWord tw_623 dX9_readBounds_22 0 rfl rfl [0, 1] [2] rfl rfl rfl rfl (by decide) rfl rfl (Nat.le_of_ble_eq_true rfl) (Nat.le_of_ble_eq_true rfl) (Nat.le_of_ble_eq_true rfl) (Nat.zero_le _) (Nat.zero_le _) (fun r22 w1 hw => ?_)
    obtain ⟨p0_begun_22, p0_position_22, rfl, h⟩ := hw
    refine x_perm (ws2 := [(h_p0, .inr (7, [.ref h_p0_bytes, .int p0_length, .int p0_position_22, .int p0_begun_22, .int p0_wrong])), (h_p0_bytes, aI T 400 p0_bytes), (h_p1, .inr (5, [.int p1_size, .int p1_hasDark, .int p1_words, .int p1_ruleLines, .int p1_endLines, .int p1_most, .int p1_bannedCircles, .int p1_unlike, .int p1_patterns, .ref h_p1_patternNodes, .ref h_p1_patternCodes, .int p1_endsJoined, .int r5, .int p1_mostEdges, .int p1_least]))]) X [1, 2, 0] rfl rfl ?_
    refine x_if_ne (tgt := 30) X dX9_readBounds_25 (by decide) (fun hc => ?_) (fun hc => ?_)
    · have h := h.1 hc
      refine x_aload_n X dX9_readBounds_30 1 rfl ?_
      refine x_aload_n X dX9_readBounds_31 0 rfl ?_
      refine x_aload_n X dX9_readBounds_32 1 rfl ?_
      refine x_getN X inGX6 12 (by decide) rfl tw_99 dX9_readBounds_33 rfl 2 rfl rfl ?_
      refine x_bipush (v := 15) X dX9_readBounds_36 (by decide) ?_
      refine x_callVI (av := [.int r5, .int (15 : Int32)]) (st := [.ref h_p1]) (wr := [(h_p1, .inr (5, [.int p1_size, .int p1_hasDark, .int p1_words, .int p1_ruleLines, .int p1_endLines, .int p1_most, .int p1_bannedCircles, .int p1_unlike, .int p1_patterns, .ref h_p1_patternNodes, .ref h_p1_patternCodes, .int p1_endsJoined, .int r5, .int p1_mostEdges, .int p1_least]))]) X (c_X8_takeNumber l D T h_p0 h_p0_bytes p0_begun_22 p0_length p0_position_22 p0_wrong p0_bytes r5 (15 : Int32) _ h) yk_X8_takeNumber tw_687 dX9_readBounds_38 0 rfl rfl [0, 1] [2] rfl rfl rfl rfl (by decide) rfl rfl (Nat.le_of_ble_eq_true rfl) (Nat.le_of_ble_eq_true rfl) (Nat.le_of_ble_eq_true rfl) (Nat.zero_le _) (Nat.zero_le _) (fun r38 w1 hw => ?_)
      obtain ⟨p0_begun_38, p0_position_38, rfl, h⟩ := hw
      refine x_perm (ws2 := [(h_p0, .inr (7, [.ref h_p0_bytes, .int p0_length, .int p0_position_38, .int p0_begun_38, .int p0_wrong])), (h_p0_bytes, aI T 400 p0_bytes), (h_p1, .inr (5, [.int p1_size, .int p1_hasDark, .int p1_words, .int p1_ruleLines, .int p1_endLines, .int p1_most, .int p1_bannedCircles, .int p1_unlike, .int p1_patterns, .ref h_p1_patternNodes, .ref h_p1_patternCodes, .int p1_endsJoined, .int r5, .int p1_mostEdges, .int p1_least]))]) X [1, 2, 0] rfl rfl ?_
      refine x_putN (ws' := [(h_p0, .inr (7, [.ref h_p0_bytes, .int p0_length, .int p0_position_38, .int p0_begun_38, .int p0_wrong])), (h_p0_bytes, aI T 400 p0_bytes), (h_p1, .inr (5, [.int p1_size, .int p1_hasDark, .int p1_words, .int p1_ruleLines, .int p1_endLines, .int p1_most, .int p1_bannedCircles, .int p1_unlike, .int p1_patterns, .ref h_p1_patternNodes, .ref h_p1_patternCodes, .int p1_endsJoined, .int r5, .int r38, .int p1_least]))]) X inGX6 tyX6_ok nmX6 13 (by decide) rfl tw_101 dX9_readBounds_41 rfl rfl 2 rfl rfl rfl (Nat.le_of_ble_eq_true rfl) rfl ?_
      refine x_aload_n X dX9_readBounds_44 1 rfl ?_
      refine x_getN X inGX6 13 (by decide) rfl tw_101 dX9_readBounds_45 rfl 2 rfl rfl ?_
      refine x_iconst (v := -1) X dX9_readBounds_48 (by decide) ?_
      refine x_icmp_eq (tgt := 56) X dX9_readBounds_49 (by decide) (fun hc => ?_) (fun hc => ?_)
      · have h := h.1 hc
        refine x_iconst (v := 0) X dX9_readBounds_56 (by decide) ?_
        exact x_sub X [] rfl (k57 (0 : Int32) p0_begun_38 p0_position_38 r5 r38 h)
      · have h := h.2 hc
        refine x_iconst (v := 1) X dX9_readBounds_52 (by decide) ?_
        refine x_goto (tgt := 57) X dX9_readBounds_53 (by decide) ?_
        exact x_sub X [] rfl (k57 (1 : Int32) p0_begun_38 p0_position_38 r5 r38 h)
    · have h := h.2 hc
      exact x_sub X [] rfl (k28 p0_begun_22 p0_position_22 r5 p1_mostEdges h)
theorem dX9_readEnd_0 : decode cX9_readEnd 0 = .ok (.aload_n 0, 1) := by decide +kernel
theorem dX9_readEnd_1 : decode cX9_readEnd 1 = .ok (.ldc 105, 2) := by decide +kernel
theorem dX9_readEnd_3 : decode cX9_readEnd 3 = .ok (.invokevirtual 16, 3) := by decide +kernel
theorem dX9_readEnd_6 : decode cX9_readEnd 6 = .ok (.ifCond .eq 15, 3) := by decide +kernel
theorem dX9_readEnd_9 : decode cX9_readEnd 9 = .ok (.aload_n 1, 1) := by decide +kernel
theorem dX9_readEnd_10 : decode cX9_readEnd 10 = .ok (.iconst 1, 1) := by decide +kernel
theorem dX9_readEnd_11 : decode cX9_readEnd 11 = .ok (.putfield 107, 3) := by decide +kernel
theorem dX9_readEnd_14 : decode cX9_readEnd 14 = .ok (.aload_n 1, 1) := by decide +kernel
theorem dX9_readEnd_15 : decode cX9_readEnd 15 = .ok (.bipush 16, 2) := by decide +kernel
theorem dX9_readEnd_17 : decode cX9_readEnd 17 = .ok (.invokevirtual 75, 3) := by decide +kernel
theorem dX9_readEnd_20 : decode cX9_readEnd 20 = .ok (.ireturn, 1) := by decide +kernel
theorem dX9_readEnd_21 : decode cX9_readEnd 21 = .ok (.aload_n 0, 1) := by decide +kernel
theorem dX9_readEnd_22 : decode cX9_readEnd 22 = .ok (.ldc 110, 2) := by decide +kernel
theorem dX9_readEnd_24 : decode cX9_readEnd 24 = .ok (.invokevirtual 16, 3) := by decide +kernel
theorem dX9_readEnd_27 : decode cX9_readEnd 27 = .ok (.ifCond .eq 26, 3) := by decide +kernel
theorem dX9_readEnd_30 : decode cX9_readEnd 30 = .ok (.aload_n 1, 1) := by decide +kernel
theorem dX9_readEnd_31 : decode cX9_readEnd 31 = .ok (.bipush 32, 2) := by decide +kernel
theorem dX9_readEnd_33 : decode cX9_readEnd 33 = .ok (.invokevirtual 75, 3) := by decide +kernel
theorem dX9_readEnd_36 : decode cX9_readEnd 36 = .ok (.ifCond .eq 15, 3) := by decide +kernel
theorem dX9_readEnd_39 : decode cX9_readEnd 39 = .ok (.aload_n 0, 1) := by decide +kernel
theorem dX9_readEnd_40 : decode cX9_readEnd 40 = .ok (.aload_n 1, 1) := by decide +kernel
theorem dX9_readEnd_41 : decode cX9_readEnd 41 = .ok (.invokestatic 112, 3) := by decide +kernel
theorem dX9_readEnd_44 : decode cX9_readEnd 44 = .ok (.ifCond .eq 7, 3) := by decide +kernel
theorem dX9_readEnd_47 : decode cX9_readEnd 47 = .ok (.iconst 1, 1) := by decide +kernel
theorem dX9_readEnd_48 : decode cX9_readEnd 48 = .ok (.goto 4, 3) := by decide +kernel
theorem dX9_readEnd_51 : decode cX9_readEnd 51 = .ok (.iconst 0, 1) := by decide +kernel
theorem dX9_readEnd_52 : decode cX9_readEnd 52 = .ok (.ireturn, 1) := by decide +kernel
theorem dX9_readEnd_53 : decode cX9_readEnd 53 = .ok (.aload_n 0, 1) := by decide +kernel
theorem dX9_readEnd_54 : decode cX9_readEnd 54 = .ok (.ldc 115, 2) := by decide +kernel
theorem dX9_readEnd_56 : decode cX9_readEnd 56 = .ok (.invokevirtual 16, 3) := by decide +kernel
theorem dX9_readEnd_59 : decode cX9_readEnd 59 = .ok (.ifCond .eq 40, 3) := by decide +kernel
theorem dX9_readEnd_62 : decode cX9_readEnd 62 = .ok (.aload_n 1, 1) := by decide +kernel
theorem dX9_readEnd_63 : decode cX9_readEnd 63 = .ok (.aload_n 1, 1) := by decide +kernel
theorem dX9_readEnd_64 : decode cX9_readEnd 64 = .ok (.bipush 64, 2) := by decide +kernel
theorem dX9_readEnd_66 : decode cX9_readEnd 66 = .ok (.invokevirtual 75, 3) := by decide +kernel
theorem dX9_readEnd_69 : decode cX9_readEnd 69 = .ok (.ifCond .eq 12, 3) := by decide +kernel
theorem dX9_readEnd_72 : decode cX9_readEnd 72 = .ok (.aload_n 0, 1) := by decide +kernel
theorem dX9_readEnd_73 : decode cX9_readEnd 73 = .ok (.iconst 0, 1) := by decide +kernel
theorem dX9_readEnd_74 : decode cX9_readEnd 74 = .ok (.iconst 5, 1) := by decide +kernel
theorem dX9_readEnd_75 : decode cX9_readEnd 75 = .ok (.invokevirtual 22, 3) := by decide +kernel
theorem dX9_readEnd_78 : decode cX9_readEnd 78 = .ok (.goto 4, 3) := by decide +kernel
theorem dX9_readEnd_81 : decode cX9_readEnd 81 = .ok (.iconst (-1), 1) := by decide +kernel
theorem dX9_readEnd_82 : decode cX9_readEnd 82 = .ok (.putfield 117, 3) := by decide +kernel
theorem dX9_readEnd_85 : decode cX9_readEnd 85 = .ok (.aload_n 1, 1) := by decide +kernel
theorem dX9_readEnd_86 : decode cX9_readEnd 86 = .ok (.getfield 117, 3) := by decide +kernel
theorem dX9_readEnd_89 : decode cX9_readEnd 89 = .ok (.iconst (-1), 1) := by decide +kernel
theorem dX9_readEnd_90 : decode cX9_readEnd 90 = .ok (.if_icmp .eq 7, 3) := by decide +kernel
theorem dX9_readEnd_93 : decode cX9_readEnd 93 = .ok (.iconst 1, 1) := by decide +kernel
theorem dX9_readEnd_94 : decode cX9_readEnd 94 = .ok (.goto 4, 3) := by decide +kernel
theorem dX9_readEnd_97 : decode cX9_readEnd 97 = .ok (.iconst 0, 1) := by decide +kernel
theorem dX9_readEnd_98 : decode cX9_readEnd 98 = .ok (.ireturn, 1) := by decide +kernel
theorem dX9_readEnd_99 : decode cX9_readEnd 99 = .ok (.iconst 0, 1) := by decide +kernel
theorem dX9_readEnd_100 : decode cX9_readEnd 100 = .ok (.ireturn, 1) := by decide +kernel
set_option maxHeartbeats 4000000 in
set_option maxRecDepth 100000 in
theorem c_X9_readEnd (l : Launch) (D : eD) (T : Nat → ClassId) (h_p0 h_p0_bytes h_p1 h_p1_patternNodes h_p1_patternCodes : Nat) (p0_begun : Int32) (p0_length : Int32) (p0_position : Int32) (p0_wrong : Int32) (p0_bytes : Nat → Int32) (p1_bannedCircles : Int32) (p1_endLines : Int32) (p1_endsJoined : Int32) (p1_fewestEdges : Int32) (p1_hasDark : Int32) (p1_least : Int32) (p1_most : Int32) (p1_mostEdges : Int32) (p1_patterns : Int32) (p1_ruleLines : Int32) (p1_size : Int32) (p1_unlike : Int32) (p1_words : Int32) (post : Int32 → Int32 → Int32 → Int32 → Int32 → Int32 → Int32 → Int32 → Prop) (h : F_X9_readEnd p0_length p0_bytes p0_begun p0_position p1_endsJoined p1_fewestEdges p1_least p1_mostEdges p1_words post) : cI l D T yX9_readEnd cX9_readEnd 2 (some .boolean) 7 184 0 0 [.ref h_p0, .ref h_p1] [(h_p0, .inr (7, [.ref h_p0_bytes, .int p0_length, .int p0_position, .int p0_begun, .int p0_wrong])), (h_p0_bytes, aI T 400 p0_bytes), (h_p1, .inr (5, [.int p1_size, .int p1_hasDark, .int p1_words, .int p1_ruleLines, .int p1_endLines, .int p1_most, .int p1_bannedCircles, .int p1_unlike, .int p1_patterns, .ref h_p1_patternNodes, .ref h_p1_patternCodes, .int p1_endsJoined, .int p1_fewestEdges, .int p1_mostEdges, .int p1_least]))] (fun r w1 => ∃ (p0_begun1 : Int32) (p0_position1 : Int32) (p1_endsJoined1 : Int32) (p1_fewestEdges1 : Int32) (p1_least1 : Int32) (p1_mostEdges1 : Int32) (p1_words1 : Int32), w1 = [(h_p0, .inr (7, [.ref h_p0_bytes, .int p0_length, .int p0_position1, .int p0_begun1, .int p0_wrong])), (h_p0_bytes, aI T 400 p0_bytes), (h_p1, .inr (5, [.int p1_size, .int p1_hasDark, .int p1_words1, .int p1_ruleLines, .int p1_endLines, .int p1_most, .int p1_bannedCircles, .int p1_unlike, .int p1_patterns, .ref h_p1_patternNodes, .ref h_p1_patternCodes, .int p1_endsJoined1, .int p1_fewestEdges1, .int p1_mostEdges1, .int p1_least1]))] ∧ post r p0_begun1 p0_position1 p1_endsJoined1 p1_fewestEdges1 p1_least1 p1_mostEdges1 p1_words1) := by
  refine xI_of (ty := .boolean) (by decide +kernel) (Nat.le_of_ble_eq_true rfl) rfl ?_
  intro G X hret
  change G 0 0 0 [(0, .ref h_p0), (1, .ref h_p1)] [] [(h_p0, .inr (7, [.ref h_p0_bytes, .int p0_length, .int p0_position, .int p0_begun, .int p0_wrong])), (h_p0_bytes, aI T 400 p0_bytes), (h_p1, .inr (5, [.int p1_size, .int p1_hasDark, .int p1_words, .int p1_ruleLines, .int p1_endLines, .int p1_most, .int p1_bannedCircles, .int p1_unlike, .int p1_patterns, .ref h_p1_patternNodes, .ref h_p1_patternCodes, .int p1_endsJoined, .int p1_fewestEdges, .int p1_mostEdges, .int p1_least]))]
  unfold F_X9_readEnd at h
  have k52 : ∀ (s0 : Int32) (p0_begun : Int32) (p0_position : Int32) (p1_endsJoined : Int32) (p1_fewestEdges : Int32) (p1_least : Int32) (p1_mostEdges : Int32) (p1_words : Int32), F_X9_readEnd_52 p0_length p0_bytes post s0 p0_begun p0_position p1_endsJoined p1_fewestEdges p1_least p1_mostEdges p1_words → G 0 0 52 [] [.int s0] [(h_p0, .inr (7, [.ref h_p0_bytes, .int p0_length, .int p0_position, .int p0_begun, .int p0_wrong])), (h_p0_bytes, aI T 400 p0_bytes), (h_p1, .inr (5, [.int p1_size, .int p1_hasDark, .int p1_words, .int p1_ruleLines, .int p1_endLines, .int p1_most, .int p1_bannedCircles, .int p1_unlike, .int p1_patterns, .ref h_p1_patternNodes, .ref h_p1_patternCodes, .int p1_endsJoined, .int p1_fewestEdges, .int p1_mostEdges, .int p1_least]))] := by
    intro s0 p0_begun p0_position p1_endsJoined p1_fewestEdges p1_least p1_mostEdges p1_words h
    unfold F_X9_readEnd_52 at h
    obtain ⟨hz, h⟩ := h
    exact hret _ _ _ _ dX9_readEnd_52 (e_nz hz) ⟨p0_begun, p0_position, p1_endsJoined, p1_fewestEdges, p1_least, p1_mostEdges, p1_words, rfl, h⟩
  have k51 : ∀ (p0_begun : Int32) (p0_position : Int32) (p1_endsJoined : Int32) (p1_fewestEdges : Int32) (p1_least : Int32) (p1_mostEdges : Int32) (p1_words : Int32), F_X9_readEnd_51 p0_length p0_bytes post (fun s0 p0_begun p0_position p1_endsJoined p1_fewestEdges p1_least p1_mostEdges p1_words => F_X9_readEnd_52 p0_length p0_bytes post s0 p0_begun p0_position p1_endsJoined p1_fewestEdges p1_least p1_mostEdges p1_words) p0_begun p0_position p1_endsJoined p1_fewestEdges p1_least p1_mostEdges p1_words → G 0 0 51 [] [] [(h_p0, .inr (7, [.ref h_p0_bytes, .int p0_length, .int p0_position, .int p0_begun, .int p0_wrong])), (h_p0_bytes, aI T 400 p0_bytes), (h_p1, .inr (5, [.int p1_size, .int p1_hasDark, .int p1_words, .int p1_ruleLines, .int p1_endLines, .int p1_most, .int p1_bannedCircles, .int p1_unlike, .int p1_patterns, .ref h_p1_patternNodes, .ref h_p1_patternCodes, .int p1_endsJoined, .int p1_fewestEdges, .int p1_mostEdges, .int p1_least]))] := by
    intro p0_begun p0_position p1_endsJoined p1_fewestEdges p1_least p1_mostEdges p1_words h
    unfold F_X9_readEnd_51 at h
    refine x_iconst (v := 0) X dX9_readEnd_51 (by decide) ?_
    exact x_sub X [] rfl (k52 (0 : Int32) p0_begun p0_position p1_endsJoined p1_fewestEdges p1_least p1_mostEdges p1_words h)
  have k82 : ∀ (s1 : Int32) (p0_begun : Int32) (p0_position : Int32) (p1_endsJoined : Int32) (p1_fewestEdges : Int32) (p1_least : Int32) (p1_mostEdges : Int32) (p1_words : Int32), F_X9_readEnd_82 p0_length p0_bytes post s1 p0_begun p0_position p1_endsJoined p1_fewestEdges p1_least p1_mostEdges p1_words → G 0 0 82 [(1, .ref h_p1)] [.int s1, .ref h_p1] [(h_p0, .inr (7, [.ref h_p0_bytes, .int p0_length, .int p0_position, .int p0_begun, .int p0_wrong])), (h_p0_bytes, aI T 400 p0_bytes), (h_p1, .inr (5, [.int p1_size, .int p1_hasDark, .int p1_words, .int p1_ruleLines, .int p1_endLines, .int p1_most, .int p1_bannedCircles, .int p1_unlike, .int p1_patterns, .ref h_p1_patternNodes, .ref h_p1_patternCodes, .int p1_endsJoined, .int p1_fewestEdges, .int p1_mostEdges, .int p1_least]))] := by
    intro s1 p0_begun p0_position p1_endsJoined p1_fewestEdges p1_least p1_mostEdges p1_words h
    unfold F_X9_readEnd_82 at h
    have k98 : ∀ (s0 : Int32) (p0_begun : Int32) (p0_position : Int32) (p1_endsJoined : Int32) (p1_fewestEdges : Int32) (p1_least : Int32) (p1_mostEdges : Int32) (p1_words : Int32), F_X9_readEnd_98 p0_length p0_bytes post s0 p0_begun p0_position p1_endsJoined p1_fewestEdges p1_least p1_mostEdges p1_words → G 0 0 98 [] [.int s0] [(h_p0, .inr (7, [.ref h_p0_bytes, .int p0_length, .int p0_position, .int p0_begun, .int p0_wrong])), (h_p0_bytes, aI T 400 p0_bytes), (h_p1, .inr (5, [.int p1_size, .int p1_hasDark, .int p1_words, .int p1_ruleLines, .int p1_endLines, .int p1_most, .int p1_bannedCircles, .int p1_unlike, .int p1_patterns, .ref h_p1_patternNodes, .ref h_p1_patternCodes, .int p1_endsJoined, .int p1_fewestEdges, .int p1_mostEdges, .int p1_least]))] := by
      intro s0 p0_begun p0_position p1_endsJoined p1_fewestEdges p1_least p1_mostEdges p1_words h
      unfold F_X9_readEnd_98 at h
      obtain ⟨hz, h⟩ := h
      exact hret _ _ _ _ dX9_readEnd_98 (e_nz hz) ⟨p0_begun, p0_position, p1_endsJoined, p1_fewestEdges, p1_least, p1_mostEdges, p1_words, rfl, h⟩
    refine x_putN (ws' := [(h_p0, .inr (7, [.ref h_p0_bytes, .int p0_length, .int p0_position, .int p0_begun, .int p0_wrong])), (h_p0_bytes, aI T 400 p0_bytes), (h_p1, .inr (5, [.int p1_size, .int p1_hasDark, .int p1_words, .int p1_ruleLines, .int p1_endLines, .int p1_most, .int p1_bannedCircles, .int p1_unlike, .int p1_patterns, .ref h_p1_patternNodes, .ref h_p1_patternCodes, .int p1_endsJoined, .int p1_fewestEdges, .int p1_mostEdges, .int s1]))]) X inGX6 tyX6_ok nmX6 14 (by decide) rfl tw_103 dX9_readEnd_82 rfl rfl 2 rfl rfl rfl (Nat.le_of_ble_eq_true rfl) rfl ?_
    refine x_aload_n X dX9_readEnd_85 0 rfl ?_
    refine x_getN X inGX6 14 (by decide) rfl tw_103 dX9_readEnd_86 rfl 2 rfl rfl ?_
    refine x_iconst (v := -1) X dX9_readEnd_89 (by decide) ?_
    refine x_icmp_eq (tgt := 97) X dX9_readEnd_90 (by decide) (fun hc => ?_) (fun hc => ?_)
    · have h := h.1 hc
      refine x_iconst (v := 0) X dX9_readEnd_97 (by decide) ?_
      exact x_sub X [] rfl (k98 (0 : Int32) p0_begun p0_position p1_endsJoined p1_fewestEdges s1 p1_mostEdges p1_words h)
    · have h := h.2 hc
      refine x_iconst (v := 1) X dX9_readEnd_93 (by decide) ?_
      refine x_goto (tgt := 98) X dX9_readEnd_94 (by decide) ?_
      exact x_sub X [] rfl (k98 (1 : Int32) p0_begun p0_position p1_endsJoined p1_fewestEdges s1 p1_mostEdges p1_words h)
  refine x_aload_n X dX9_readEnd_0 0 rfl ?_
  refine x_ldcS X 3 (by decide) rfl rfl dX9_readEnd_1 ?_
  refine x_callVI (av := [.ref (D.2.1 3)]) (st := []) (wr := [(h_p1, .inr (5, [.int p1_size, .int p1_hasDark, .int p1_words, .int p1_ruleLines, .int p1_endLines, .int p1_most, .int p1_bannedCircles, .int p1_unlike, .int p1_patterns, .ref h_p1_patternNodes, .ref h_p1_patternCodes, .int p1_endsJoined, .int p1_fewestEdges, .int p1_mostEdges, .int p1_least]))]) X (c_X8_takesWord l D T h_p0 h_p0_bytes p0_begun p0_length p0_position p0_wrong p0_bytes 3 _ h) yk_X8_takesWord tw_623 dX9_readEnd_3 0 rfl rfl [0, 1] [2] rfl rfl rfl rfl (by decide) rfl rfl (Nat.le_of_ble_eq_true rfl) (Nat.le_of_ble_eq_true rfl) (Nat.le_of_ble_eq_true rfl) (Nat.zero_le _) (Nat.zero_le _) (fun r3 w1 hw => ?_)
  obtain ⟨p0_begun_3, p0_position_3, rfl, h⟩ := hw
  refine x_perm (ws2 := [(h_p0, .inr (7, [.ref h_p0_bytes, .int p0_length, .int p0_position_3, .int p0_begun_3, .int p0_wrong])), (h_p0_bytes, aI T 400 p0_bytes), (h_p1, .inr (5, [.int p1_size, .int p1_hasDark, .int p1_words, .int p1_ruleLines, .int p1_endLines, .int p1_most, .int p1_bannedCircles, .int p1_unlike, .int p1_patterns, .ref h_p1_patternNodes, .ref h_p1_patternCodes, .int p1_endsJoined, .int p1_fewestEdges, .int p1_mostEdges, .int p1_least]))]) X [1, 2, 0] rfl rfl ?_
  refine x_if_eq (tgt := 21) X dX9_readEnd_6 (by decide) (fun hc => ?_) (fun hc => ?_)
  · have h := h.1 hc
    refine x_aload_n X dX9_readEnd_21 0 rfl ?_
    refine x_ldcS X 4 (by decide) rfl rfl dX9_readEnd_22 ?_
    refine x_callVI (av := [.ref (D.2.1 4)]) (st := []) (wr := [(h_p1, .inr (5, [.int p1_size, .int p1_hasDark, .int p1_words, .int p1_ruleLines, .int p1_endLines, .int p1_most, .int p1_bannedCircles, .int p1_unlike, .int p1_patterns, .ref h_p1_patternNodes, .ref h_p1_patternCodes, .int p1_endsJoined, .int p1_fewestEdges, .int p1_mostEdges, .int p1_least]))]) X (c_X8_takesWord l D T h_p0 h_p0_bytes p0_begun_3 p0_length p0_position_3 p0_wrong p0_bytes 4 _ h) yk_X8_takesWord tw_623 dX9_readEnd_24 0 rfl rfl [0, 1] [2] rfl rfl rfl rfl (by decide) rfl rfl (Nat.le_of_ble_eq_true rfl) (Nat.le_of_ble_eq_true rfl) (Nat.le_of_ble_eq_true rfl) (Nat.zero_le _) (Nat.zero_le _) (fun r24 w1 hw => ?_)
    obtain ⟨p0_begun_24, p0_position_24, rfl, h⟩ := hw
    refine x_perm (ws2 := [(h_p0, .inr (7, [.ref h_p0_bytes, .int p0_length, .int p0_position_24, .int p0_begun_24, .int p0_wrong])), (h_p0_bytes, aI T 400 p0_bytes), (h_p1, .inr (5, [.int p1_size, .int p1_hasDark, .int p1_words, .int p1_ruleLines, .int p1_endLines, .int p1_most, .int p1_bannedCircles, .int p1_unlike, .int p1_patterns, .ref h_p1_patternNodes, .ref h_p1_patternCodes, .int p1_endsJoined, .int p1_fewestEdges, .int p1_mostEdges, .int p1_least]))]) X [1, 2, 0] rfl rfl ?_
    refine x_if_eq (tgt := 53) X dX9_readEnd_27 (by decide) (fun hc => ?_) (fun hc => ?_)
    · have h := h.1 hc
      refine x_aload_n X dX9_readEnd_53 0 rfl ?_
      refine x_ldcS X 6 (by decide) rfl rfl dX9_readEnd_54 ?_
      refine x_callVI (av := [.ref (D.2.1 6)]) (st := []) (wr := [(h_p1, .inr (5, [.int p1_size, .int p1_hasDark, .int p1_words, .int p1_ruleLines, .int p1_endLines, .int p1_most, .int p1_bannedCircles, .int p1_unlike, .int p1_patterns, .ref h_p1_patternNodes, .ref h_p1_patternCodes, .int p1_endsJoined, .int p1_fewestEdges, .int p1_mostEdges, .int p1_least]))]) X (c_X8_takesWord l D T h_p0 h_p0_bytes p0_begun_24 p0_length p0_position_24 p0_wrong p0_bytes 6 _ h) yk_X8_takesWord tw_623 dX9_readEnd_56 0 rfl rfl [0, 1] [2] rfl rfl rfl rfl (by decide) rfl rfl (Nat.le_of_ble_eq_true rfl) (Nat.le_of_ble_eq_true rfl) (Nat.le_of_ble_eq_true rfl) (Nat.zero_le _) (Nat.zero_le _) (fun r56 w1 hw => ?_)
      obtain ⟨p0_begun_56, p0_position_56, rfl, h⟩ := hw
      refine x_perm (ws2 := [(h_p0, .inr (7, [.ref h_p0_bytes, .int p0_length, .int p0_position_56, .int p0_begun_56, .int p0_wrong])), (h_p0_bytes, aI T 400 p0_bytes), (h_p1, .inr (5, [.int p1_size, .int p1_hasDark, .int p1_words, .int p1_ruleLines, .int p1_endLines, .int p1_most, .int p1_bannedCircles, .int p1_unlike, .int p1_patterns, .ref h_p1_patternNodes, .ref h_p1_patternCodes, .int p1_endsJoined, .int p1_fewestEdges, .int p1_mostEdges, .int p1_least]))]) X [1, 2, 0] rfl rfl ?_
      refine x_if_eq (tgt := 99) X dX9_readEnd_59 (by decide) (fun hc => ?_) (fun hc => ?_)
      · have h := h.1 hc
        refine x_iconst (v := 0) X dX9_readEnd_99 (by decide) ?_
        obtain ⟨hz, h⟩ := h
        exact hret _ _ _ _ dX9_readEnd_100 (e_nz hz) ⟨p0_begun_56, p0_position_56, p1_endsJoined, p1_fewestEdges, p1_least, p1_mostEdges, p1_words, rfl, h⟩
      · have h := h.2 hc
        refine x_aload_n X dX9_readEnd_62 1 rfl ?_
        refine x_aload_n X dX9_readEnd_63 1 rfl ?_
        refine x_bipush (v := 64) X dX9_readEnd_64 (by decide) ?_
        refine x_callVI (av := [.int (64 : Int32)]) (st := [.ref h_p1]) (wr := [(h_p0, .inr (7, [.ref h_p0_bytes, .int p0_length, .int p0_position_56, .int p0_begun_56, .int p0_wrong])), (h_p0_bytes, aI T 400 p0_bytes)]) X (c_X6_tellsFirst l D T h_p1 h_p1_patternNodes h_p1_patternCodes p1_bannedCircles p1_endLines p1_endsJoined p1_fewestEdges p1_hasDark p1_least p1_most p1_mostEdges p1_patterns p1_ruleLines p1_size p1_unlike p1_words (64 : Int32) _ h) yk_X6_tellsFirst tw_712 dX9_readEnd_66 2 rfl rfl [2] [0, 1] rfl rfl rfl rfl (by decide) rfl rfl (Nat.le_of_ble_eq_true rfl) (Nat.le_of_ble_eq_true rfl) (Nat.le_of_ble_eq_true rfl) (Nat.zero_le _) (Nat.zero_le _) (fun r66 w1 hw => ?_)
        obtain ⟨p1_words_66, rfl, h⟩ := hw
        refine x_perm (ws2 := [(h_p0, .inr (7, [.ref h_p0_bytes, .int p0_length, .int p0_position_56, .int p0_begun_56, .int p0_wrong])), (h_p0_bytes, aI T 400 p0_bytes), (h_p1, .inr (5, [.int p1_size, .int p1_hasDark, .int p1_words_66, .int p1_ruleLines, .int p1_endLines, .int p1_most, .int p1_bannedCircles, .int p1_unlike, .int p1_patterns, .ref h_p1_patternNodes, .ref h_p1_patternCodes, .int p1_endsJoined, .int p1_fewestEdges, .int p1_mostEdges, .int p1_least]))]) X [0, 1, 2] rfl rfl ?_
        refine x_if_eq (tgt := 81) X dX9_readEnd_69 (by decide) (fun hc => ?_) (fun hc => ?_)
        · have h := h.1 hc
          refine x_iconst (v := -1) X dX9_readEnd_81 (by decide) ?_
          exact x_sub X [1] rfl (k82 (-1 : Int32) p0_begun_56 p0_position_56 p1_endsJoined p1_fewestEdges p1_least p1_mostEdges p1_words_66 h)
        · have h := h.2 hc
          refine x_aload_n X dX9_readEnd_72 0 rfl ?_
          refine x_iconst (v := 0) X dX9_readEnd_73 (by decide) ?_
          refine x_iconst (v := 5) X dX9_readEnd_74 (by decide) ?_
          refine x_callVI (av := [.int (0 : Int32), .int (5 : Int32)]) (st := [.ref h_p1]) (wr := [(h_p1, .inr (5, [.int p1_size, .int p1_hasDark, .int p1_words_66, .int p1_ruleLines, .int p1_endLines, .int p1_most, .int p1_bannedCircles, .int p1_unlike, .int p1_patterns, .ref h_p1_patternNodes, .ref h_p1_patternCodes, .int p1_endsJoined, .int p1_fewestEdges, .int p1_mostEdges, .int p1_least]))]) X (c_X8_takeNumber l D T h_p0 h_p0_bytes p0_begun_56 p0_length p0_position_56 p0_wrong p0_bytes (0 : Int32) (5 : Int32) _ h) yk_X8_takeNumber tw_687 dX9_readEnd_75 0 rfl rfl [0, 1] [2] rfl rfl rfl rfl (by decide) rfl rfl (Nat.le_of_ble_eq_true rfl) (Nat.le_of_ble_eq_true rfl) (Nat.le_of_ble_eq_true rfl) (Nat.zero_le _) (Nat.zero_le _) (fun r75 w1 hw => ?_)
          obtain ⟨p0_begun_75, p0_position_75, rfl, h⟩ := hw
          refine x_perm (ws2 := [(h_p0, .inr (7, [.ref h_p0_bytes, .int p0_length, .int p0_position_75, .int p0_begun_75, .int p0_wrong])), (h_p0_bytes, aI T 400 p0_bytes), (h_p1, .inr (5, [.int p1_size, .int p1_hasDark, .int p1_words_66, .int p1_ruleLines, .int p1_endLines, .int p1_most, .int p1_bannedCircles, .int p1_unlike, .int p1_patterns, .ref h_p1_patternNodes, .ref h_p1_patternCodes, .int p1_endsJoined, .int p1_fewestEdges, .int p1_mostEdges, .int p1_least]))]) X [1, 2, 0] rfl rfl ?_
          refine x_goto (tgt := 82) X dX9_readEnd_78 (by decide) ?_
          exact x_sub X [1] rfl (k82 r75 p0_begun_75 p0_position_75 p1_endsJoined p1_fewestEdges p1_least p1_mostEdges p1_words_66 h)
    · have h := h.2 hc
      refine x_aload_n X dX9_readEnd_30 1 rfl ?_
      refine x_bipush (v := 32) X dX9_readEnd_31 (by decide) ?_
      refine x_callVI (av := [.int (32 : Int32)]) (st := []) (wr := [(h_p0, .inr (7, [.ref h_p0_bytes, .int p0_length, .int p0_position_24, .int p0_begun_24, .int p0_wrong])), (h_p0_bytes, aI T 400 p0_bytes)]) X (c_X6_tellsFirst l D T h_p1 h_p1_patternNodes h_p1_patternCodes p1_bannedCircles p1_endLines p1_endsJoined p1_fewestEdges p1_hasDark p1_least p1_most p1_mostEdges p1_patterns p1_ruleLines p1_size p1_unlike p1_words (32 : Int32) _ h) yk_X6_tellsFirst tw_712 dX9_readEnd_33 2 rfl rfl [2] [0, 1] rfl rfl rfl rfl (by decide) rfl rfl (Nat.le_of_ble_eq_true rfl) (Nat.le_of_ble_eq_true rfl) (Nat.le_of_ble_eq_true rfl) (Nat.zero_le _) (Nat.zero_le _) (fun r33 w1 hw => ?_)
      obtain ⟨p1_words_33, rfl, h⟩ := hw
      refine x_perm (ws2 := [(h_p0, .inr (7, [.ref h_p0_bytes, .int p0_length, .int p0_position_24, .int p0_begun_24, .int p0_wrong])), (h_p0_bytes, aI T 400 p0_bytes), (h_p1, .inr (5, [.int p1_size, .int p1_hasDark, .int p1_words_33, .int p1_ruleLines, .int p1_endLines, .int p1_most, .int p1_bannedCircles, .int p1_unlike, .int p1_patterns, .ref h_p1_patternNodes, .ref h_p1_patternCodes, .int p1_endsJoined, .int p1_fewestEdges, .int p1_mostEdges, .int p1_least]))]) X [0, 1, 2] rfl rfl ?_
      refine x_if_eq (tgt := 51) X dX9_readEnd_36 (by decide) (fun hc => ?_) (fun hc => ?_)
      · have h := h.1 hc
        exact x_sub X [] rfl (k51 p0_begun_24 p0_position_24 p1_endsJoined p1_fewestEdges p1_least p1_mostEdges p1_words_33 h)
      · have h := h.2 hc
        refine x_aload_n X dX9_readEnd_39 0 rfl ?_
        refine x_aload_n X dX9_readEnd_40 1 rfl ?_
        refine x_callSI (av := [.ref h_p0, .ref h_p1]) (st := []) (wr := []) X (c_X9_readBounds l D T h_p0 h_p0_bytes h_p1 h_p1_patternNodes h_p1_patternCodes p0_begun_24 p0_length p0_position_24 p0_wrong p0_bytes p1_bannedCircles p1_endLines p1_endsJoined p1_fewestEdges p1_hasDark p1_least p1_most p1_mostEdges p1_patterns p1_ruleLines p1_size p1_unlike p1_words_33 _ h) yk_X9_readBounds tw_717 dX9_readEnd_41 [0, 1, 2] [] rfl rfl rfl rfl (by decide) rfl rfl (Nat.le_of_ble_eq_true rfl) (Nat.le_of_ble_eq_true rfl) (Nat.le_of_ble_eq_true rfl) (Nat.zero_le _) (Nat.zero_le _) (fun r41 w1 hw => ?_)
        obtain ⟨p0_begun_41, p0_position_41, p1_fewestEdges_41, p1_mostEdges_41, rfl, h⟩ := hw
        refine x_perm (ws2 := [(h_p0, .inr (7, [.ref h_p0_bytes, .int p0_length, .int p0_position_41, .int p0_begun_41, .int p0_wrong])), (h_p0_bytes, aI T 400 p0_bytes), (h_p1, .inr (5, [.int p1_size, .int p1_hasDark, .int p1_words_33, .int p1_ruleLines, .int p1_endLines, .int p1_most, .int p1_bannedCircles, .int p1_unlike, .int p1_patterns, .ref h_p1_patternNodes, .ref h_p1_patternCodes, .int p1_endsJoined, .int p1_fewestEdges_41, .int p1_mostEdges_41, .int p1_least]))]) X [0, 1, 2] rfl rfl ?_
        refine x_if_eq (tgt := 51) X dX9_readEnd_44 (by decide) (fun hc => ?_) (fun hc => ?_)
        · have h := h.1 hc
          exact x_sub X [] rfl (k51 p0_begun_41 p0_position_41 p1_endsJoined p1_fewestEdges_41 p1_least p1_mostEdges_41 p1_words_33 h)
        · have h := h.2 hc
          refine x_iconst (v := 1) X dX9_readEnd_47 (by decide) ?_
          refine x_goto (tgt := 52) X dX9_readEnd_48 (by decide) ?_
          exact x_sub X [] rfl (k52 (1 : Int32) p0_begun_41 p0_position_41 p1_endsJoined p1_fewestEdges_41 p1_least p1_mostEdges_41 p1_words_33 h)
  · have h := h.2 hc
    refine x_aload_n X dX9_readEnd_9 1 rfl ?_
    refine x_iconst (v := 1) X dX9_readEnd_10 (by decide) ?_
    refine x_putN (ws' := [(h_p0, .inr (7, [.ref h_p0_bytes, .int p0_length, .int p0_position_3, .int p0_begun_3, .int p0_wrong])), (h_p0_bytes, aI T 400 p0_bytes), (h_p1, .inr (5, [.int p1_size, .int p1_hasDark, .int p1_words, .int p1_ruleLines, .int p1_endLines, .int p1_most, .int p1_bannedCircles, .int p1_unlike, .int p1_patterns, .ref h_p1_patternNodes, .ref h_p1_patternCodes, .int (1 : Int32), .int p1_fewestEdges, .int p1_mostEdges, .int p1_least]))]) X inGX6 tyX6_ok nmX6 11 (by decide) rfl tw_97 dX9_readEnd_11 rfl rfl 2 rfl rfl rfl (Nat.le_of_ble_eq_true rfl) rfl ?_
    refine x_aload_n X dX9_readEnd_14 1 rfl ?_
    refine x_bipush (v := 16) X dX9_readEnd_15 (by decide) ?_
    refine x_callVI (av := [.int (16 : Int32)]) (st := []) (wr := [(h_p0, .inr (7, [.ref h_p0_bytes, .int p0_length, .int p0_position_3, .int p0_begun_3, .int p0_wrong])), (h_p0_bytes, aI T 400 p0_bytes)]) X (c_X6_tellsFirst l D T h_p1 h_p1_patternNodes h_p1_patternCodes p1_bannedCircles p1_endLines (1 : Int32) p1_fewestEdges p1_hasDark p1_least p1_most p1_mostEdges p1_patterns p1_ruleLines p1_size p1_unlike p1_words (16 : Int32) _ h) yk_X6_tellsFirst tw_712 dX9_readEnd_17 2 rfl rfl [2] [0, 1] rfl rfl rfl rfl (by decide) rfl rfl (Nat.le_of_ble_eq_true rfl) (Nat.le_of_ble_eq_true rfl) (Nat.le_of_ble_eq_true rfl) (Nat.zero_le _) (Nat.zero_le _) (fun r17 w1 hw => ?_)
    obtain ⟨p1_words_17, rfl, h⟩ := hw
    refine x_perm (ws2 := [(h_p0, .inr (7, [.ref h_p0_bytes, .int p0_length, .int p0_position_3, .int p0_begun_3, .int p0_wrong])), (h_p0_bytes, aI T 400 p0_bytes), (h_p1, .inr (5, [.int p1_size, .int p1_hasDark, .int p1_words_17, .int p1_ruleLines, .int p1_endLines, .int p1_most, .int p1_bannedCircles, .int p1_unlike, .int p1_patterns, .ref h_p1_patternNodes, .ref h_p1_patternCodes, .int (1 : Int32), .int p1_fewestEdges, .int p1_mostEdges, .int p1_least]))]) X [0, 1, 2] rfl rfl ?_
    obtain ⟨hz, h⟩ := h
    exact hret _ _ _ _ dX9_readEnd_20 (e_nz hz) ⟨p0_begun_3, p0_position_3, (1 : Int32), p1_fewestEdges, p1_least, p1_mostEdges, p1_words_17, rfl, h⟩
theorem dX9_readEdges_0 : decode cX9_readEdges 0 = .ok (.iload_n 2, 1) := by decide +kernel
theorem dX9_readEdges_1 : decode cX9_readEdges 1 = .ok (.istore_n 3, 1) := by decide +kernel
theorem dX9_readEdges_2 : decode cX9_readEdges 2 = .ok (.iconst 0, 1) := by decide +kernel
theorem dX9_readEdges_3 : decode cX9_readEdges 3 = .ok (.istore 4, 2) := by decide +kernel
theorem dX9_readEdges_5 : decode cX9_readEdges 5 = .ok (.iload 4, 2) := by decide +kernel
theorem dX9_readEdges_7 : decode cX9_readEdges 7 = .ok (.bipush 15, 2) := by decide +kernel
theorem dX9_readEdges_9 : decode cX9_readEdges 9 = .ok (.if_icmp .gt 86, 3) := by decide +kernel
theorem dX9_readEdges_12 : decode cX9_readEdges 12 = .ok (.aload_n 0, 1) := by decide +kernel
theorem dX9_readEdges_13 : decode cX9_readEdges 13 = .ok (.iconst 0, 1) := by decide +kernel
theorem dX9_readEdges_14 : decode cX9_readEdges 14 = .ok (.iload_n 1, 1) := by decide +kernel
theorem dX9_readEdges_15 : decode cX9_readEdges 15 = .ok (.iconst 1, 1) := by decide +kernel
theorem dX9_readEdges_16 : decode cX9_readEdges 16 = .ok (.isub, 1) := by decide +kernel
theorem dX9_readEdges_17 : decode cX9_readEdges 17 = .ok (.invokevirtual 22, 3) := by decide +kernel
theorem dX9_readEdges_20 : decode cX9_readEdges 20 = .ok (.istore 5, 2) := by decide +kernel
theorem dX9_readEdges_22 : decode cX9_readEdges 22 = .ok (.iload 5, 2) := by decide +kernel
theorem dX9_readEdges_24 : decode cX9_readEdges 24 = .ok (.iconst (-1), 1) := by decide +kernel
theorem dX9_readEdges_25 : decode cX9_readEdges 25 = .ok (.if_icmp .ne 5, 3) := by decide +kernel
theorem dX9_readEdges_28 : decode cX9_readEdges 28 = .ok (.iconst (-1), 1) := by decide +kernel
theorem dX9_readEdges_29 : decode cX9_readEdges 29 = .ok (.ireturn, 1) := by decide +kernel
theorem dX9_readEdges_30 : decode cX9_readEdges 30 = .ok (.aload_n 0, 1) := by decide +kernel
theorem dX9_readEdges_31 : decode cX9_readEdges 31 = .ok (.iconst 0, 1) := by decide +kernel
theorem dX9_readEdges_32 : decode cX9_readEdges 32 = .ok (.iload_n 1, 1) := by decide +kernel
theorem dX9_readEdges_33 : decode cX9_readEdges 33 = .ok (.iconst 1, 1) := by decide +kernel
theorem dX9_readEdges_34 : decode cX9_readEdges 34 = .ok (.isub, 1) := by decide +kernel
theorem dX9_readEdges_35 : decode cX9_readEdges 35 = .ok (.invokevirtual 22, 3) := by decide +kernel
theorem dX9_readEdges_38 : decode cX9_readEdges 38 = .ok (.istore 6, 2) := by decide +kernel
theorem dX9_readEdges_40 : decode cX9_readEdges 40 = .ok (.iload 6, 2) := by decide +kernel
theorem dX9_readEdges_42 : decode cX9_readEdges 42 = .ok (.iconst (-1), 1) := by decide +kernel
theorem dX9_readEdges_43 : decode cX9_readEdges 43 = .ok (.if_icmp .eq 22, 3) := by decide +kernel
theorem dX9_readEdges_46 : decode cX9_readEdges 46 = .ok (.iload 5, 2) := by decide +kernel
theorem dX9_readEdges_48 : decode cX9_readEdges 48 = .ok (.iload 6, 2) := by decide +kernel
theorem dX9_readEdges_50 : decode cX9_readEdges 50 = .ok (.if_icmp .eq 15, 3) := by decide +kernel
theorem dX9_readEdges_53 : decode cX9_readEdges 53 = .ok (.iload_n 1, 1) := by decide +kernel
theorem dX9_readEdges_54 : decode cX9_readEdges 54 = .ok (.iload_n 3, 1) := by decide +kernel
theorem dX9_readEdges_55 : decode cX9_readEdges 55 = .ok (.iload 5, 2) := by decide +kernel
theorem dX9_readEdges_57 : decode cX9_readEdges 57 = .ok (.iload 6, 2) := by decide +kernel
theorem dX9_readEdges_59 : decode cX9_readEdges 59 = .ok (.invokestatic 127, 3) := by decide +kernel
theorem dX9_readEdges_62 : decode cX9_readEdges 62 = .ok (.ifCond .eq 5, 3) := by decide +kernel
theorem dX9_readEdges_65 : decode cX9_readEdges 65 = .ok (.iconst (-1), 1) := by decide +kernel
theorem dX9_readEdges_66 : decode cX9_readEdges 66 = .ok (.ireturn, 1) := by decide +kernel
theorem dX9_readEdges_67 : decode cX9_readEdges 67 = .ok (.iload_n 3, 1) := by decide +kernel
theorem dX9_readEdges_68 : decode cX9_readEdges 68 = .ok (.iload_n 1, 1) := by decide +kernel
theorem dX9_readEdges_69 : decode cX9_readEdges 69 = .ok (.iload 5, 2) := by decide +kernel
theorem dX9_readEdges_71 : decode cX9_readEdges 71 = .ok (.iload 6, 2) := by decide +kernel
theorem dX9_readEdges_73 : decode cX9_readEdges 73 = .ok (.invokestatic 133, 3) := by decide +kernel
theorem dX9_readEdges_76 : decode cX9_readEdges 76 = .ok (.ior, 1) := by decide +kernel
theorem dX9_readEdges_77 : decode cX9_readEdges 77 = .ok (.istore_n 3, 1) := by decide +kernel
theorem dX9_readEdges_78 : decode cX9_readEdges 78 = .ok (.aload_n 0, 1) := by decide +kernel
theorem dX9_readEdges_79 : decode cX9_readEdges 79 = .ok (.bipush 44, 2) := by decide +kernel
theorem dX9_readEdges_81 : decode cX9_readEdges 81 = .ok (.invokevirtual 42, 3) := by decide +kernel
theorem dX9_readEdges_84 : decode cX9_readEdges 84 = .ok (.ifCond .ne 5, 3) := by decide +kernel
theorem dX9_readEdges_87 : decode cX9_readEdges 87 = .ok (.iload_n 3, 1) := by decide +kernel
theorem dX9_readEdges_88 : decode cX9_readEdges 88 = .ok (.ireturn, 1) := by decide +kernel
theorem dX9_readEdges_89 : decode cX9_readEdges 89 = .ok (.iinc 4 1, 3) := by decide +kernel
theorem dX9_readEdges_92 : decode cX9_readEdges 92 = .ok (.goto (-87), 3) := by decide +kernel
theorem dX9_readEdges_95 : decode cX9_readEdges 95 = .ok (.iconst (-1), 1) := by decide +kernel
theorem dX9_readEdges_96 : decode cX9_readEdges 96 = .ok (.ireturn, 1) := by decide +kernel
set_option maxHeartbeats 4000000 in
set_option maxRecDepth 100000 in
theorem c_X9_readEdges (l : Launch) (D : eD) (T : Nat → ClassId) (h_p0 h_p0_bytes : Nat) (p0_begun : Int32) (p0_length : Int32) (p0_position : Int32) (p0_wrong : Int32) (p0_bytes : Nat → Int32) (p1 : Int32) (p2 : Int32) (post : Int32 → Int32 → Int32 → Prop) (h : F_X9_readEdges p0_length p0_bytes p0_begun p0_position p1 p2 post) : cI l D T yX9_readEdges cX9_readEdges 7 (some .int) 3 95 0 0 [.ref h_p0, .int p1, .int p2] [(h_p0, .inr (7, [.ref h_p0_bytes, .int p0_length, .int p0_position, .int p0_begun, .int p0_wrong])), (h_p0_bytes, aI T 400 p0_bytes)] (fun r w1 => ∃ (p0_begun1 : Int32) (p0_position1 : Int32), w1 = [(h_p0, .inr (7, [.ref h_p0_bytes, .int p0_length, .int p0_position1, .int p0_begun1, .int p0_wrong])), (h_p0_bytes, aI T 400 p0_bytes)] ∧ post r p0_begun1 p0_position1) := by
  refine xI_of (ty := .int) (by decide +kernel) (Nat.le_of_ble_eq_true rfl) rfl ?_
  intro G X hret
  change G 0 0 0 [(0, .ref h_p0), (1, .int p1), (2, .int p2)] [] [(h_p0, .inr (7, [.ref h_p0_bytes, .int p0_length, .int p0_position, .int p0_begun, .int p0_wrong])), (h_p0_bytes, aI T 400 p0_bytes)]
  unfold F_X9_readEdges at h
  have k5 : ∀ (n5 : Nat) (x1 : Int32) (x3 : Int32) (x4 : Int32) (p0_begun : Int32) (p0_position : Int32), F_X9_readEdges_5 p0_length p0_bytes post n5 x1 x3 x4 p0_begun p0_position → G 0 0 5 [(0, .ref h_p0), (1, .int x1), (3, .int x3), (4, .int x4)] [] [(h_p0, .inr (7, [.ref h_p0_bytes, .int p0_length, .int p0_position, .int p0_begun, .int p0_wrong])), (h_p0_bytes, aI T 400 p0_bytes)] := by
    intro n5
    induction n5 with
    | zero => intro x1 x3 x4 p0_begun p0_position h; exact h.elim
    | succ n5 ih5 =>
      intro x1 x3 x4 p0_begun p0_position h
      rw [F_X9_readEdges_5] at h
      have k65 : ∀ (p0_begun : Int32) (p0_position : Int32), F_X9_readEdges_65 p0_length p0_bytes post p0_begun p0_position → G 0 0 65 [] [] [(h_p0, .inr (7, [.ref h_p0_bytes, .int p0_length, .int p0_position, .int p0_begun, .int p0_wrong])), (h_p0_bytes, aI T 400 p0_bytes)] := by
        intro p0_begun p0_position h
        unfold F_X9_readEdges_65 at h
        refine x_iconst (v := -1) X dX9_readEdges_65 (by decide) ?_
        exact hret _ _ _ _ dX9_readEdges_66 rfl ⟨p0_begun, p0_position, rfl, h⟩
      refine x_iload X dX9_readEdges_5 3 rfl ?_
      refine x_bipush (v := 15) X dX9_readEdges_7 (by decide) ?_
      refine x_icmp_gt (tgt := 95) X dX9_readEdges_9 (by decide) (fun hc => ?_) (fun hc => ?_)
      · have h := h.1 hc
        refine x_iconst (v := -1) X dX9_readEdges_95 (by decide) ?_
        exact hret _ _ _ _ dX9_readEdges_96 rfl ⟨p0_begun, p0_position, rfl, h⟩
      · have h := h.2 hc
        refine x_aload_n X dX9_readEdges_12 0 rfl ?_
        refine x_iconst (v := 0) X dX9_readEdges_13 (by decide) ?_
        refine x_iload_n X dX9_readEdges_14 1 rfl ?_
        refine x_iconst (v := 1) X dX9_readEdges_15 (by decide) ?_
        refine x_isub X dX9_readEdges_16 ?_
        refine x_callVI (av := [.int (0 : Int32), .int (x1 - (1 : Int32))]) (st := []) (wr := []) X (c_X8_takeNumber l D T h_p0 h_p0_bytes p0_begun p0_length p0_position p0_wrong p0_bytes (0 : Int32) (x1 - (1 : Int32)) _ h) yk_X8_takeNumber tw_687 dX9_readEdges_17 0 rfl rfl [0, 1] [] rfl rfl rfl rfl (by decide) rfl rfl (Nat.le_of_ble_eq_true rfl) (Nat.le_of_ble_eq_true rfl) (Nat.le_of_ble_eq_true rfl) (Nat.zero_le _) (Nat.zero_le _) (fun r17 w1 hw => ?_)
        obtain ⟨p0_begun_17, p0_position_17, rfl, h⟩ := hw
        refine x_perm (ws2 := [(h_p0, .inr (7, [.ref h_p0_bytes, .int p0_length, .int p0_position_17, .int p0_begun_17, .int p0_wrong])), (h_p0_bytes, aI T 400 p0_bytes)]) X [0, 1] rfl rfl ?_
        refine x_istore (lv' := [(5, .int r17), (0, .ref h_p0), (1, .int x1), (3, .int x3), (4, .int x4)]) X dX9_readEdges_20 (by decide) rfl ?_
        refine x_iload X dX9_readEdges_22 0 rfl ?_
        refine x_iconst (v := -1) X dX9_readEdges_24 (by decide) ?_
        refine x_icmp_ne (tgt := 30) X dX9_readEdges_25 (by decide) (fun hc => ?_) (fun hc => ?_)
        · have h := h.1 hc
          refine x_aload_n X dX9_readEdges_30 1 rfl ?_
          refine x_iconst (v := 0) X dX9_readEdges_31 (by decide) ?_
          refine x_iload_n X dX9_readEdges_32 2 rfl ?_
          refine x_iconst (v := 1) X dX9_readEdges_33 (by decide) ?_
          refine x_isub X dX9_readEdges_34 ?_
          refine x_callVI (av := [.int (0 : Int32), .int (x1 - (1 : Int32))]) (st := []) (wr := []) X (c_X8_takeNumber l D T h_p0 h_p0_bytes p0_begun_17 p0_length p0_position_17 p0_wrong p0_bytes (0 : Int32) (x1 - (1 : Int32)) _ h) yk_X8_takeNumber tw_687 dX9_readEdges_35 0 rfl rfl [0, 1] [] rfl rfl rfl rfl (by decide) rfl rfl (Nat.le_of_ble_eq_true rfl) (Nat.le_of_ble_eq_true rfl) (Nat.le_of_ble_eq_true rfl) (Nat.zero_le _) (Nat.zero_le _) (fun r35 w1 hw => ?_)
          obtain ⟨p0_begun_35, p0_position_35, rfl, h⟩ := hw
          refine x_perm (ws2 := [(h_p0, .inr (7, [.ref h_p0_bytes, .int p0_length, .int p0_position_35, .int p0_begun_35, .int p0_wrong])), (h_p0_bytes, aI T 400 p0_bytes)]) X [0, 1] rfl rfl ?_
          refine x_istore (lv' := [(6, .int r35), (5, .int r17), (0, .ref h_p0), (1, .int x1), (3, .int x3), (4, .int x4)]) X dX9_readEdges_38 (by decide) rfl ?_
          refine x_iload X dX9_readEdges_40 0 rfl ?_
          refine x_iconst (v := -1) X dX9_readEdges_42 (by decide) ?_
          refine x_icmp_eq (tgt := 65) X dX9_readEdges_43 (by decide) (fun hc => ?_) (fun hc => ?_)
          · have h := h.1 hc
            exact x_sub X [] rfl (k65 p0_begun_35 p0_position_35 h)
          · have h := h.2 hc
            refine x_iload X dX9_readEdges_46 1 rfl ?_
            refine x_iload X dX9_readEdges_48 0 rfl ?_
            refine x_icmp_eq (tgt := 65) X dX9_readEdges_50 (by decide) (fun hc => ?_) (fun hc => ?_)
            · have h := h.1 hc
              exact x_sub X [] rfl (k65 p0_begun_35 p0_position_35 h)
            · have h := h.2 hc
              refine x_iload_n X dX9_readEdges_53 3 rfl ?_
              refine x_iload_n X dX9_readEdges_54 4 rfl ?_
              refine x_iload X dX9_readEdges_55 1 rfl ?_
              refine x_iload X dX9_readEdges_57 0 rfl ?_
              refine x_callSI (av := [.int x1, .int x3, .int r17, .int r35]) (st := []) (wr := [(h_p0, .inr (7, [.ref h_p0_bytes, .int p0_length, .int p0_position_35, .int p0_begun_35, .int p0_wrong])), (h_p0_bytes, aI T 400 p0_bytes)]) X (c_X0_areJoined l D T  x1 x3 r17 r35 _ h) yk_X0_areJoined tw_733 dX9_readEdges_59 [] [0, 1] rfl rfl rfl rfl (by decide) rfl rfl (Nat.le_of_ble_eq_true rfl) (Nat.le_of_ble_eq_true rfl) (Nat.le_of_ble_eq_true rfl) (Nat.zero_le _) (Nat.zero_le _) (fun r59 w1 hw => ?_)
              obtain ⟨rfl, h⟩ := hw
              refine x_perm (ws2 := [(h_p0, .inr (7, [.ref h_p0_bytes, .int p0_length, .int p0_position_35, .int p0_begun_35, .int p0_wrong])), (h_p0_bytes, aI T 400 p0_bytes)]) X [0, 1] rfl rfl ?_
              refine x_if_eq (tgt := 67) X dX9_readEdges_62 (by decide) (fun hc => ?_) (fun hc => ?_)
              · have h := h.1 hc
                refine x_iload_n X dX9_readEdges_67 4 rfl ?_
                refine x_iload_n X dX9_readEdges_68 3 rfl ?_
                refine x_iload X dX9_readEdges_69 1 rfl ?_
                refine x_iload X dX9_readEdges_71 0 rfl ?_
                refine x_callSI (av := [.int x1, .int r17, .int r35]) (st := [.int x3]) (wr := [(h_p0, .inr (7, [.ref h_p0_bytes, .int p0_length, .int p0_position_35, .int p0_begun_35, .int p0_wrong])), (h_p0_bytes, aI T 400 p0_bytes)]) X (c_X0_edge l D T  x1 r17 r35 _ h) yk_X0_edge tw_736 dX9_readEdges_73 [] [0, 1] rfl rfl rfl rfl (by decide) rfl rfl (Nat.le_of_ble_eq_true rfl) (Nat.le_of_ble_eq_true rfl) (Nat.le_of_ble_eq_true rfl) (Nat.zero_le _) (Nat.zero_le _) (fun r73 w1 hw => ?_)
                obtain ⟨rfl, h⟩ := hw
                refine x_perm (ws2 := [(h_p0, .inr (7, [.ref h_p0_bytes, .int p0_length, .int p0_position_35, .int p0_begun_35, .int p0_wrong])), (h_p0_bytes, aI T 400 p0_bytes)]) X [0, 1] rfl rfl ?_
                refine x_ior X dX9_readEdges_76 ?_
                refine x_istore_n (lv' := [(3, .int (x3 ||| r73)), (6, .int r35), (5, .int r17), (0, .ref h_p0), (1, .int x1), (4, .int x4)]) X dX9_readEdges_77 (by decide) rfl ?_
                refine x_aload_n X dX9_readEdges_78 3 rfl ?_
                refine x_bipush (v := 44) X dX9_readEdges_79 (by decide) ?_
                refine x_callVI (av := [.int (44 : Int32)]) (st := []) (wr := []) X (c_X8_takesSign l D T h_p0 h_p0_bytes p0_begun_35 p0_length p0_position_35 p0_wrong p0_bytes (44 : Int32) _ h) yk_X8_takesSign tw_700 dX9_readEdges_81 0 rfl rfl [0, 1] [] rfl rfl rfl rfl (by decide) rfl rfl (Nat.le_of_ble_eq_true rfl) (Nat.le_of_ble_eq_true rfl) (Nat.le_of_ble_eq_true rfl) (Nat.zero_le _) (Nat.zero_le _) (fun r81 w1 hw => ?_)
                obtain ⟨p0_begun_81, p0_position_81, rfl, h⟩ := hw
                refine x_perm (ws2 := [(h_p0, .inr (7, [.ref h_p0_bytes, .int p0_length, .int p0_position_81, .int p0_begun_81, .int p0_wrong])), (h_p0_bytes, aI T 400 p0_bytes)]) X [0, 1] rfl rfl ?_
                refine x_if_ne (tgt := 89) X dX9_readEdges_84 (by decide) (fun hc => ?_) (fun hc => ?_)
                · have h := h.1 hc
                  refine x_iinc (v := (x4 + 1)) (lv' := [(4, .int (x4 + 1)), (3, .int (x3 ||| r73)), (6, .int r35), (5, .int r17), (0, .ref h_p0), (1, .int x1)]) X dX9_readEdges_89 5 rfl rfl (by decide) rfl ?_
                  refine x_goto (tgt := 5) X dX9_readEdges_92 (by decide) ?_
                  exact x_sub X [4, 5, 1, 0] rfl (ih5 x1 (x3 ||| r73) (x4 + 1) p0_begun_81 p0_position_81 h)
                · have h := h.2 hc
                  refine x_iload_n X dX9_readEdges_87 0 rfl ?_
                  exact hret _ _ _ _ dX9_readEdges_88 rfl ⟨p0_begun_81, p0_position_81, rfl, h⟩
              · have h := h.2 hc
                exact x_sub X [] rfl (k65 p0_begun_35 p0_position_35 h)
        · have h := h.2 hc
          refine x_iconst (v := -1) X dX9_readEdges_28 (by decide) ?_
          exact hret _ _ _ _ dX9_readEdges_29 rfl ⟨p0_begun_17, p0_position_17, rfl, h⟩
  refine x_iload_n X dX9_readEdges_0 2 rfl ?_
  refine x_istore_n (lv' := [(3, .int p2), (0, .ref h_p0), (1, .int p1), (2, .int p2)]) X dX9_readEdges_1 (by decide) rfl ?_
  refine x_iconst (v := 0) X dX9_readEdges_2 (by decide) ?_
  refine x_istore (lv' := [(4, .int (0 : Int32)), (3, .int p2), (0, .ref h_p0), (1, .int p1), (2, .int p2)]) X dX9_readEdges_3 (by decide) rfl ?_
  obtain ⟨n5, h⟩ := h
  exact x_sub X [2, 3, 1, 0] rfl (k5 n5 p1 p2 (0 : Int32) p0_begun p0_position h)
theorem dX9_readPattern_0 : decode cX9_readPattern 0 = .ok (.aload_n 1, 1) := by decide +kernel
theorem dX9_readPattern_1 : decode cX9_readPattern 1 = .ok (.invokevirtual 94, 3) := by decide +kernel
theorem dX9_readPattern_4 : decode cX9_readPattern 4 = .ok (.ifCond .ne 5, 3) := by decide +kernel
theorem dX9_readPattern_7 : decode cX9_readPattern 7 = .ok (.iconst 0, 1) := by decide +kernel
theorem dX9_readPattern_8 : decode cX9_readPattern 8 = .ok (.ireturn, 1) := by decide +kernel
theorem dX9_readPattern_9 : decode cX9_readPattern 9 = .ok (.aload_n 0, 1) := by decide +kernel
theorem dX9_readPattern_10 : decode cX9_readPattern 10 = .ok (.iconst 2, 1) := by decide +kernel
theorem dX9_readPattern_11 : decode cX9_readPattern 11 = .ok (.iconst 4, 1) := by decide +kernel
theorem dX9_readPattern_12 : decode cX9_readPattern 12 = .ok (.invokevirtual 22, 3) := by decide +kernel
theorem dX9_readPattern_15 : decode cX9_readPattern 15 = .ok (.istore_n 2, 1) := by decide +kernel
theorem dX9_readPattern_16 : decode cX9_readPattern 16 = .ok (.iload_n 2, 1) := by decide +kernel
theorem dX9_readPattern_17 : decode cX9_readPattern 17 = .ok (.iconst (-1), 1) := by decide +kernel
theorem dX9_readPattern_18 : decode cX9_readPattern 18 = .ok (.if_icmp .ne 5, 3) := by decide +kernel
theorem dX9_readPattern_21 : decode cX9_readPattern 21 = .ok (.iconst 0, 1) := by decide +kernel
theorem dX9_readPattern_22 : decode cX9_readPattern 22 = .ok (.ireturn, 1) := by decide +kernel
theorem dX9_readPattern_23 : decode cX9_readPattern 23 = .ok (.aload_n 0, 1) := by decide +kernel
theorem dX9_readPattern_24 : decode cX9_readPattern 24 = .ok (.bipush 58, 2) := by decide +kernel
theorem dX9_readPattern_26 : decode cX9_readPattern 26 = .ok (.invokevirtual 42, 3) := by decide +kernel
theorem dX9_readPattern_29 : decode cX9_readPattern 29 = .ok (.ifCond .eq 12, 3) := by decide +kernel
theorem dX9_readPattern_32 : decode cX9_readPattern 32 = .ok (.aload_n 0, 1) := by decide +kernel
theorem dX9_readPattern_33 : decode cX9_readPattern 33 = .ok (.iload_n 2, 1) := by decide +kernel
theorem dX9_readPattern_34 : decode cX9_readPattern 34 = .ok (.iconst 0, 1) := by decide +kernel
theorem dX9_readPattern_35 : decode cX9_readPattern 35 = .ok (.invokestatic 97, 3) := by decide +kernel
theorem dX9_readPattern_38 : decode cX9_readPattern 38 = .ok (.goto 4, 3) := by decide +kernel
theorem dX9_readPattern_41 : decode cX9_readPattern 41 = .ok (.iconst 0, 1) := by decide +kernel
theorem dX9_readPattern_42 : decode cX9_readPattern 42 = .ok (.istore_n 3, 1) := by decide +kernel
theorem dX9_readPattern_43 : decode cX9_readPattern 43 = .ok (.iload_n 3, 1) := by decide +kernel
theorem dX9_readPattern_44 : decode cX9_readPattern 44 = .ok (.iconst (-1), 1) := by decide +kernel
theorem dX9_readPattern_45 : decode cX9_readPattern 45 = .ok (.if_icmp .ne 5, 3) := by decide +kernel
theorem dX9_readPattern_48 : decode cX9_readPattern 48 = .ok (.iconst 0, 1) := by decide +kernel
theorem dX9_readPattern_49 : decode cX9_readPattern 49 = .ok (.ireturn, 1) := by decide +kernel
theorem dX9_readPattern_50 : decode cX9_readPattern 50 = .ok (.aload_n 1, 1) := by decide +kernel
theorem dX9_readPattern_51 : decode cX9_readPattern 51 = .ok (.iload_n 2, 1) := by decide +kernel
theorem dX9_readPattern_52 : decode cX9_readPattern 52 = .ok (.iload_n 3, 1) := by decide +kernel
theorem dX9_readPattern_53 : decode cX9_readPattern 53 = .ok (.invokevirtual 101, 3) := by decide +kernel
theorem dX9_readPattern_56 : decode cX9_readPattern 56 = .ok (.iconst 1, 1) := by decide +kernel
theorem dX9_readPattern_57 : decode cX9_readPattern 57 = .ok (.ireturn, 1) := by decide +kernel
set_option maxHeartbeats 4000000 in
set_option maxRecDepth 100000 in
theorem c_X9_readPattern (l : Launch) (D : eD) (T : Nat → ClassId) (h_p0 h_p0_bytes h_p1 h_p1_patternNodes h_p1_patternCodes : Nat) (p0_begun : Int32) (p0_length : Int32) (p0_position : Int32) (p0_wrong : Int32) (p0_bytes : Nat → Int32) (p1_bannedCircles : Int32) (p1_endLines : Int32) (p1_endsJoined : Int32) (p1_fewestEdges : Int32) (p1_hasDark : Int32) (p1_least : Int32) (p1_most : Int32) (p1_mostEdges : Int32) (p1_patterns : Int32) (p1_ruleLines : Int32) (p1_size : Int32) (p1_unlike : Int32) (p1_words : Int32) (p1_patternCodes : Nat → Int32) (p1_patternNodes : Nat → Int32) (post : Int32 → Int32 → Int32 → Int32 → (Nat → Int32) → (Nat → Int32) → Prop) (h : F_X9_readPattern p0_length p0_bytes p0_begun p0_position p1_patterns p1_patternCodes p1_patternNodes post) : cI l D T yX9_readPattern cX9_readPattern 4 (some .boolean) 4 121 0 0 [.ref h_p0, .ref h_p1] [(h_p0, .inr (7, [.ref h_p0_bytes, .int p0_length, .int p0_position, .int p0_begun, .int p0_wrong])), (h_p0_bytes, aI T 400 p0_bytes), (h_p1, .inr (5, [.int p1_size, .int p1_hasDark, .int p1_words, .int p1_ruleLines, .int p1_endLines, .int p1_most, .int p1_bannedCircles, .int p1_unlike, .int p1_patterns, .ref h_p1_patternNodes, .ref h_p1_patternCodes, .int p1_endsJoined, .int p1_fewestEdges, .int p1_mostEdges, .int p1_least])), (h_p1_patternCodes, aI T 2 p1_patternCodes), (h_p1_patternNodes, aI T 2 p1_patternNodes)] (fun r w1 => ∃ (p0_begun1 : Int32) (p0_position1 : Int32) (p1_patterns1 : Int32) (p1_patternCodes1 : Nat → Int32) (p1_patternNodes1 : Nat → Int32), w1 = [(h_p0, .inr (7, [.ref h_p0_bytes, .int p0_length, .int p0_position1, .int p0_begun1, .int p0_wrong])), (h_p0_bytes, aI T 400 p0_bytes), (h_p1, .inr (5, [.int p1_size, .int p1_hasDark, .int p1_words, .int p1_ruleLines, .int p1_endLines, .int p1_most, .int p1_bannedCircles, .int p1_unlike, .int p1_patterns1, .ref h_p1_patternNodes, .ref h_p1_patternCodes, .int p1_endsJoined, .int p1_fewestEdges, .int p1_mostEdges, .int p1_least])), (h_p1_patternCodes, aI T 2 p1_patternCodes1), (h_p1_patternNodes, aI T 2 p1_patternNodes1)] ∧ post r p0_begun1 p0_position1 p1_patterns1 p1_patternCodes1 p1_patternNodes1) := by
  refine xI_of (ty := .boolean) (by decide +kernel) (Nat.le_of_ble_eq_true rfl) rfl ?_
  intro G X hret
  change G 0 0 0 [(0, .ref h_p0), (1, .ref h_p1)] [] [(h_p0, .inr (7, [.ref h_p0_bytes, .int p0_length, .int p0_position, .int p0_begun, .int p0_wrong])), (h_p0_bytes, aI T 400 p0_bytes), (h_p1, .inr (5, [.int p1_size, .int p1_hasDark, .int p1_words, .int p1_ruleLines, .int p1_endLines, .int p1_most, .int p1_bannedCircles, .int p1_unlike, .int p1_patterns, .ref h_p1_patternNodes, .ref h_p1_patternCodes, .int p1_endsJoined, .int p1_fewestEdges, .int p1_mostEdges, .int p1_least])), (h_p1_patternCodes, aI T 2 p1_patternCodes), (h_p1_patternNodes, aI T 2 p1_patternNodes)]
  unfold F_X9_readPattern at h
  have k42 : ∀ (x2 : Int32) (s0 : Int32) (p0_begun : Int32) (p0_position : Int32) (p1_patterns : Int32) (p1_patternCodes : Nat → Int32) (p1_patternNodes : Nat → Int32), F_X9_readPattern_42 p0_length p0_bytes post x2 s0 p0_begun p0_position p1_patterns p1_patternCodes p1_patternNodes → G 0 0 42 [(1, .ref h_p1), (2, .int x2)] [.int s0] [(h_p0, .inr (7, [.ref h_p0_bytes, .int p0_length, .int p0_position, .int p0_begun, .int p0_wrong])), (h_p0_bytes, aI T 400 p0_bytes), (h_p1, .inr (5, [.int p1_size, .int p1_hasDark, .int p1_words, .int p1_ruleLines, .int p1_endLines, .int p1_most, .int p1_bannedCircles, .int p1_unlike, .int p1_patterns, .ref h_p1_patternNodes, .ref h_p1_patternCodes, .int p1_endsJoined, .int p1_fewestEdges, .int p1_mostEdges, .int p1_least])), (h_p1_patternCodes, aI T 2 p1_patternCodes), (h_p1_patternNodes, aI T 2 p1_patternNodes)] := by
    intro x2 s0 p0_begun p0_position p1_patterns p1_patternCodes p1_patternNodes h
    unfold F_X9_readPattern_42 at h
    refine x_istore_n (lv' := [(3, .int s0), (1, .ref h_p1), (2, .int x2)]) X dX9_readPattern_42 (by decide) rfl ?_
    refine x_iload_n X dX9_readPattern_43 0 rfl ?_
    refine x_iconst (v := -1) X dX9_readPattern_44 (by decide) ?_
    refine x_icmp_ne (tgt := 50) X dX9_readPattern_45 (by decide) (fun hc => ?_) (fun hc => ?_)
    · have h := h.1 hc
      refine x_aload_n X dX9_readPattern_50 1 rfl ?_
      refine x_iload_n X dX9_readPattern_51 2 rfl ?_
      refine x_iload_n X dX9_readPattern_52 0 rfl ?_
      refine x_callVV (av := [.int x2, .int s0]) (st := []) (wr := [(h_p0, .inr (7, [.ref h_p0_bytes, .int p0_length, .int p0_position, .int p0_begun, .int p0_wrong])), (h_p0_bytes, aI T 400 p0_bytes)]) X (c_X6_addPattern l D T h_p1 h_p1_patternNodes h_p1_patternCodes p1_bannedCircles p1_endLines p1_endsJoined p1_fewestEdges p1_hasDark p1_least p1_most p1_mostEdges p1_patterns p1_ruleLines p1_size p1_unlike p1_words p1_patternCodes p1_patternNodes x2 s0 _ h) yk_X6_addPattern tw_737 dX9_readPattern_53 2 rfl rfl [2, 3, 4] [0, 1] rfl rfl rfl rfl (by decide) rfl rfl (Nat.le_of_ble_eq_true rfl) (Nat.le_of_ble_eq_true rfl) (Nat.le_of_ble_eq_true rfl) (Nat.zero_le _) (Nat.zero_le _) (fun w1 hw => ?_)
      obtain ⟨p1_patterns_53, p1_patternCodes_53, p1_patternNodes_53, rfl, h⟩ := hw
      refine x_perm (ws2 := [(h_p0, .inr (7, [.ref h_p0_bytes, .int p0_length, .int p0_position, .int p0_begun, .int p0_wrong])), (h_p0_bytes, aI T 400 p0_bytes), (h_p1, .inr (5, [.int p1_size, .int p1_hasDark, .int p1_words, .int p1_ruleLines, .int p1_endLines, .int p1_most, .int p1_bannedCircles, .int p1_unlike, .int p1_patterns_53, .ref h_p1_patternNodes, .ref h_p1_patternCodes, .int p1_endsJoined, .int p1_fewestEdges, .int p1_mostEdges, .int p1_least])), (h_p1_patternCodes, aI T 2 p1_patternCodes_53), (h_p1_patternNodes, aI T 2 p1_patternNodes_53)]) X [0, 1, 2, 3, 4] rfl rfl ?_
      refine x_iconst (v := 1) X dX9_readPattern_56 (by decide) ?_
      exact hret _ _ _ _ dX9_readPattern_57 rfl ⟨p0_begun, p0_position, p1_patterns_53, p1_patternCodes_53, p1_patternNodes_53, rfl, h⟩
    · have h := h.2 hc
      refine x_iconst (v := 0) X dX9_readPattern_48 (by decide) ?_
      obtain ⟨hz, h⟩ := h
      exact hret _ _ _ _ dX9_readPattern_49 (e_nz hz) ⟨p0_begun, p0_position, p1_patterns, p1_patternCodes, p1_patternNodes, rfl, h⟩
  refine x_aload_n X dX9_readPattern_0 1 rfl ?_
  refine x_callVI (av := []) (st := []) (wr := [(h_p0, .inr (7, [.ref h_p0_bytes, .int p0_length, .int p0_position, .int p0_begun, .int p0_wrong])), (h_p0_bytes, aI T 400 p0_bytes), (h_p1_patternCodes, aI T 2 p1_patternCodes), (h_p1_patternNodes, aI T 2 p1_patternNodes)]) X (c_X6_hasRoomForPattern l D T h_p1 h_p1_patternNodes h_p1_patternCodes p1_bannedCircles p1_endLines p1_endsJoined p1_fewestEdges p1_hasDark p1_least p1_most p1_mostEdges p1_patterns p1_ruleLines p1_size p1_unlike p1_words _ h) yk_X6_hasRoomForPattern tw_726 dX9_readPattern_1 2 rfl rfl [2] [0, 1, 3, 4] rfl rfl rfl rfl (by decide) rfl rfl (Nat.le_of_ble_eq_true rfl) (Nat.le_of_ble_eq_true rfl) (Nat.le_of_ble_eq_true rfl) (Nat.zero_le _) (Nat.zero_le _) (fun r1 w1 hw => ?_)
  obtain ⟨rfl, h⟩ := hw
  refine x_perm (ws2 := [(h_p0, .inr (7, [.ref h_p0_bytes, .int p0_length, .int p0_position, .int p0_begun, .int p0_wrong])), (h_p0_bytes, aI T 400 p0_bytes), (h_p1, .inr (5, [.int p1_size, .int p1_hasDark, .int p1_words, .int p1_ruleLines, .int p1_endLines, .int p1_most, .int p1_bannedCircles, .int p1_unlike, .int p1_patterns, .ref h_p1_patternNodes, .ref h_p1_patternCodes, .int p1_endsJoined, .int p1_fewestEdges, .int p1_mostEdges, .int p1_least])), (h_p1_patternCodes, aI T 2 p1_patternCodes), (h_p1_patternNodes, aI T 2 p1_patternNodes)]) X [0, 1, 4, 2, 3] rfl rfl ?_
  refine x_if_ne (tgt := 9) X dX9_readPattern_4 (by decide) (fun hc => ?_) (fun hc => ?_)
  · have h := h.1 hc
    refine x_aload_n X dX9_readPattern_9 0 rfl ?_
    refine x_iconst (v := 2) X dX9_readPattern_10 (by decide) ?_
    refine x_iconst (v := 4) X dX9_readPattern_11 (by decide) ?_
    refine x_callVI (av := [.int (2 : Int32), .int (4 : Int32)]) (st := []) (wr := [(h_p1, .inr (5, [.int p1_size, .int p1_hasDark, .int p1_words, .int p1_ruleLines, .int p1_endLines, .int p1_most, .int p1_bannedCircles, .int p1_unlike, .int p1_patterns, .ref h_p1_patternNodes, .ref h_p1_patternCodes, .int p1_endsJoined, .int p1_fewestEdges, .int p1_mostEdges, .int p1_least])), (h_p1_patternCodes, aI T 2 p1_patternCodes), (h_p1_patternNodes, aI T 2 p1_patternNodes)]) X (c_X8_takeNumber l D T h_p0 h_p0_bytes p0_begun p0_length p0_position p0_wrong p0_bytes (2 : Int32) (4 : Int32) _ h) yk_X8_takeNumber tw_687 dX9_readPattern_12 0 rfl rfl [0, 1] [2, 3, 4] rfl rfl rfl rfl (by decide) rfl rfl (Nat.le_of_ble_eq_true rfl) (Nat.le_of_ble_eq_true rfl) (Nat.le_of_ble_eq_true rfl) (Nat.zero_le _) (Nat.zero_le _) (fun r12 w1 hw => ?_)
    obtain ⟨p0_begun_12, p0_position_12, rfl, h⟩ := hw
    refine x_perm (ws2 := [(h_p0, .inr (7, [.ref h_p0_bytes, .int p0_length, .int p0_position_12, .int p0_begun_12, .int p0_wrong])), (h_p0_bytes, aI T 400 p0_bytes), (h_p1, .inr (5, [.int p1_size, .int p1_hasDark, .int p1_words, .int p1_ruleLines, .int p1_endLines, .int p1_most, .int p1_bannedCircles, .int p1_unlike, .int p1_patterns, .ref h_p1_patternNodes, .ref h_p1_patternCodes, .int p1_endsJoined, .int p1_fewestEdges, .int p1_mostEdges, .int p1_least])), (h_p1_patternCodes, aI T 2 p1_patternCodes), (h_p1_patternNodes, aI T 2 p1_patternNodes)]) X [3, 4, 0, 1, 2] rfl rfl ?_
    refine x_istore_n (lv' := [(2, .int r12), (0, .ref h_p0), (1, .ref h_p1)]) X dX9_readPattern_15 (by decide) rfl ?_
    refine x_iload_n X dX9_readPattern_16 0 rfl ?_
    refine x_iconst (v := -1) X dX9_readPattern_17 (by decide) ?_
    refine x_icmp_ne (tgt := 23) X dX9_readPattern_18 (by decide) (fun hc => ?_) (fun hc => ?_)
    · have h := h.1 hc
      refine x_aload_n X dX9_readPattern_23 1 rfl ?_
      refine x_bipush (v := 58) X dX9_readPattern_24 (by decide) ?_
      refine x_callVI (av := [.int (58 : Int32)]) (st := []) (wr := [(h_p1, .inr (5, [.int p1_size, .int p1_hasDark, .int p1_words, .int p1_ruleLines, .int p1_endLines, .int p1_most, .int p1_bannedCircles, .int p1_unlike, .int p1_patterns, .ref h_p1_patternNodes, .ref h_p1_patternCodes, .int p1_endsJoined, .int p1_fewestEdges, .int p1_mostEdges, .int p1_least])), (h_p1_patternCodes, aI T 2 p1_patternCodes), (h_p1_patternNodes, aI T 2 p1_patternNodes)]) X (c_X8_takesSign l D T h_p0 h_p0_bytes p0_begun_12 p0_length p0_position_12 p0_wrong p0_bytes (58 : Int32) _ h) yk_X8_takesSign tw_700 dX9_readPattern_26 0 rfl rfl [0, 1] [2, 3, 4] rfl rfl rfl rfl (by decide) rfl rfl (Nat.le_of_ble_eq_true rfl) (Nat.le_of_ble_eq_true rfl) (Nat.le_of_ble_eq_true rfl) (Nat.zero_le _) (Nat.zero_le _) (fun r26 w1 hw => ?_)
      obtain ⟨p0_begun_26, p0_position_26, rfl, h⟩ := hw
      refine x_perm (ws2 := [(h_p0, .inr (7, [.ref h_p0_bytes, .int p0_length, .int p0_position_26, .int p0_begun_26, .int p0_wrong])), (h_p0_bytes, aI T 400 p0_bytes), (h_p1, .inr (5, [.int p1_size, .int p1_hasDark, .int p1_words, .int p1_ruleLines, .int p1_endLines, .int p1_most, .int p1_bannedCircles, .int p1_unlike, .int p1_patterns, .ref h_p1_patternNodes, .ref h_p1_patternCodes, .int p1_endsJoined, .int p1_fewestEdges, .int p1_mostEdges, .int p1_least])), (h_p1_patternCodes, aI T 2 p1_patternCodes), (h_p1_patternNodes, aI T 2 p1_patternNodes)]) X [3, 4, 0, 1, 2] rfl rfl ?_
      refine x_if_eq (tgt := 41) X dX9_readPattern_29 (by decide) (fun hc => ?_) (fun hc => ?_)
      · have h := h.1 hc
        refine x_iconst (v := 0) X dX9_readPattern_41 (by decide) ?_
        exact x_sub X [2, 0] rfl (k42 r12 (0 : Int32) p0_begun_26 p0_position_26 p1_patterns p1_patternCodes p1_patternNodes h)
      · have h := h.2 hc
        refine x_aload_n X dX9_readPattern_32 1 rfl ?_
        refine x_iload_n X dX9_readPattern_33 0 rfl ?_
        refine x_iconst (v := 0) X dX9_readPattern_34 (by decide) ?_
        refine x_callSI (av := [.ref h_p0, .int r12, .int (0 : Int32)]) (st := []) (wr := [(h_p1, .inr (5, [.int p1_size, .int p1_hasDark, .int p1_words, .int p1_ruleLines, .int p1_endLines, .int p1_most, .int p1_bannedCircles, .int p1_unlike, .int p1_patterns, .ref h_p1_patternNodes, .ref h_p1_patternCodes, .int p1_endsJoined, .int p1_fewestEdges, .int p1_mostEdges, .int p1_least])), (h_p1_patternCodes, aI T 2 p1_patternCodes), (h_p1_patternNodes, aI T 2 p1_patternNodes)]) X (c_X9_readEdges l D T h_p0 h_p0_bytes p0_begun_26 p0_length p0_position_26 p0_wrong p0_bytes r12 (0 : Int32) _ h) yk_X9_readEdges tw_730 dX9_readPattern_35 [0, 1] [2, 3, 4] rfl rfl rfl rfl (by decide) rfl rfl (Nat.le_of_ble_eq_true rfl) (Nat.le_of_ble_eq_true rfl) (Nat.le_of_ble_eq_true rfl) (Nat.zero_le _) (Nat.zero_le _) (fun r35 w1 hw => ?_)
        obtain ⟨p0_begun_35, p0_position_35, rfl, h⟩ := hw
        refine x_perm (ws2 := [(h_p0, .inr (7, [.ref h_p0_bytes, .int p0_length, .int p0_position_35, .int p0_begun_35, .int p0_wrong])), (h_p0_bytes, aI T 400 p0_bytes), (h_p1, .inr (5, [.int p1_size, .int p1_hasDark, .int p1_words, .int p1_ruleLines, .int p1_endLines, .int p1_most, .int p1_bannedCircles, .int p1_unlike, .int p1_patterns, .ref h_p1_patternNodes, .ref h_p1_patternCodes, .int p1_endsJoined, .int p1_fewestEdges, .int p1_mostEdges, .int p1_least])), (h_p1_patternCodes, aI T 2 p1_patternCodes), (h_p1_patternNodes, aI T 2 p1_patternNodes)]) X [3, 4, 0, 1, 2] rfl rfl ?_
        refine x_goto (tgt := 42) X dX9_readPattern_38 (by decide) ?_
        exact x_sub X [2, 0] rfl (k42 r12 r35 p0_begun_35 p0_position_35 p1_patterns p1_patternCodes p1_patternNodes h)
    · have h := h.2 hc
      refine x_iconst (v := 0) X dX9_readPattern_21 (by decide) ?_
      obtain ⟨hz, h⟩ := h
      exact hret _ _ _ _ dX9_readPattern_22 (e_nz hz) ⟨p0_begun_12, p0_position_12, p1_patterns, p1_patternCodes, p1_patternNodes, rfl, h⟩
  · have h := h.2 hc
    refine x_iconst (v := 0) X dX9_readPattern_7 (by decide) ?_
    obtain ⟨hz, h⟩ := h
    exact hret _ _ _ _ dX9_readPattern_8 (e_nz hz) ⟨p0_begun, p0_position, p1_patterns, p1_patternCodes, p1_patternNodes, rfl, h⟩
theorem dX9_readRule_0 : decode cX9_readRule 0 = .ok (.aload_n 0, 1) := by decide +kernel
theorem dX9_readRule_1 : decode cX9_readRule 1 = .ok (.ldc 73, 2) := by decide +kernel
theorem dX9_readRule_3 : decode cX9_readRule 3 = .ok (.invokevirtual 16, 3) := by decide +kernel
theorem dX9_readRule_6 : decode cX9_readRule 6 = .ok (.ifCond .eq 39, 3) := by decide +kernel
theorem dX9_readRule_9 : decode cX9_readRule 9 = .ok (.aload_n 1, 1) := by decide +kernel
theorem dX9_readRule_10 : decode cX9_readRule 10 = .ok (.aload_n 1, 1) := by decide +kernel
theorem dX9_readRule_11 : decode cX9_readRule 11 = .ok (.iconst 1, 1) := by decide +kernel
theorem dX9_readRule_12 : decode cX9_readRule 12 = .ok (.invokevirtual 75, 3) := by decide +kernel
theorem dX9_readRule_15 : decode cX9_readRule 15 = .ok (.ifCond .eq 12, 3) := by decide +kernel
theorem dX9_readRule_18 : decode cX9_readRule 18 = .ok (.aload_n 0, 1) := by decide +kernel
theorem dX9_readRule_19 : decode cX9_readRule 19 = .ok (.iconst 0, 1) := by decide +kernel
theorem dX9_readRule_20 : decode cX9_readRule 20 = .ok (.iconst 5, 1) := by decide +kernel
theorem dX9_readRule_21 : decode cX9_readRule 21 = .ok (.invokevirtual 22, 3) := by decide +kernel
theorem dX9_readRule_24 : decode cX9_readRule 24 = .ok (.goto 4, 3) := by decide +kernel
theorem dX9_readRule_27 : decode cX9_readRule 27 = .ok (.iconst (-1), 1) := by decide +kernel
theorem dX9_readRule_28 : decode cX9_readRule 28 = .ok (.putfield 79, 3) := by decide +kernel
theorem dX9_readRule_31 : decode cX9_readRule 31 = .ok (.aload_n 1, 1) := by decide +kernel
theorem dX9_readRule_32 : decode cX9_readRule 32 = .ok (.getfield 79, 3) := by decide +kernel
theorem dX9_readRule_35 : decode cX9_readRule 35 = .ok (.iconst (-1), 1) := by decide +kernel
theorem dX9_readRule_36 : decode cX9_readRule 36 = .ok (.if_icmp .eq 7, 3) := by decide +kernel
theorem dX9_readRule_39 : decode cX9_readRule 39 = .ok (.iconst 1, 1) := by decide +kernel
theorem dX9_readRule_40 : decode cX9_readRule 40 = .ok (.goto 4, 3) := by decide +kernel
theorem dX9_readRule_43 : decode cX9_readRule 43 = .ok (.iconst 0, 1) := by decide +kernel
theorem dX9_readRule_44 : decode cX9_readRule 44 = .ok (.ireturn, 1) := by decide +kernel
theorem dX9_readRule_45 : decode cX9_readRule 45 = .ok (.aload_n 0, 1) := by decide +kernel
theorem dX9_readRule_46 : decode cX9_readRule 46 = .ok (.ldc 81, 2) := by decide +kernel
theorem dX9_readRule_48 : decode cX9_readRule 48 = .ok (.invokevirtual 16, 3) := by decide +kernel
theorem dX9_readRule_51 : decode cX9_readRule 51 = .ok (.ifCond .eq 43, 3) := by decide +kernel
theorem dX9_readRule_54 : decode cX9_readRule 54 = .ok (.aload_n 0, 1) := by decide +kernel
theorem dX9_readRule_55 : decode cX9_readRule 55 = .ok (.iconst 3, 1) := by decide +kernel
theorem dX9_readRule_56 : decode cX9_readRule 56 = .ok (.bipush 6, 2) := by decide +kernel
theorem dX9_readRule_58 : decode cX9_readRule 58 = .ok (.invokevirtual 22, 3) := by decide +kernel
theorem dX9_readRule_61 : decode cX9_readRule 61 = .ok (.istore_n 2, 1) := by decide +kernel
theorem dX9_readRule_62 : decode cX9_readRule 62 = .ok (.aload_n 1, 1) := by decide +kernel
theorem dX9_readRule_63 : decode cX9_readRule 63 = .ok (.dup, 1) := by decide +kernel
theorem dX9_readRule_64 : decode cX9_readRule 64 = .ok (.getfield 83, 3) := by decide +kernel
theorem dX9_readRule_67 : decode cX9_readRule 67 = .ok (.iload_n 2, 1) := by decide +kernel
theorem dX9_readRule_68 : decode cX9_readRule 68 = .ok (.iconst (-1), 1) := by decide +kernel
theorem dX9_readRule_69 : decode cX9_readRule 69 = .ok (.if_icmp .ne 7, 3) := by decide +kernel
theorem dX9_readRule_72 : decode cX9_readRule 72 = .ok (.iconst 0, 1) := by decide +kernel
theorem dX9_readRule_73 : decode cX9_readRule 73 = .ok (.goto 6, 3) := by decide +kernel
theorem dX9_readRule_76 : decode cX9_readRule 76 = .ok (.iconst 1, 1) := by decide +kernel
theorem dX9_readRule_77 : decode cX9_readRule 77 = .ok (.iload_n 2, 1) := by decide +kernel
theorem dX9_readRule_78 : decode cX9_readRule 78 = .ok (.ishl, 1) := by decide +kernel
theorem dX9_readRule_79 : decode cX9_readRule 79 = .ok (.ior, 1) := by decide +kernel
theorem dX9_readRule_80 : decode cX9_readRule 80 = .ok (.putfield 83, 3) := by decide +kernel
theorem dX9_readRule_83 : decode cX9_readRule 83 = .ok (.iload_n 2, 1) := by decide +kernel
theorem dX9_readRule_84 : decode cX9_readRule 84 = .ok (.iconst (-1), 1) := by decide +kernel
theorem dX9_readRule_85 : decode cX9_readRule 85 = .ok (.if_icmp .eq 7, 3) := by decide +kernel
theorem dX9_readRule_88 : decode cX9_readRule 88 = .ok (.iconst 1, 1) := by decide +kernel
theorem dX9_readRule_89 : decode cX9_readRule 89 = .ok (.goto 4, 3) := by decide +kernel
theorem dX9_readRule_92 : decode cX9_readRule 92 = .ok (.iconst 0, 1) := by decide +kernel
theorem dX9_readRule_93 : decode cX9_readRule 93 = .ok (.ireturn, 1) := by decide +kernel
theorem dX9_readRule_94 : decode cX9_readRule 94 = .ok (.aload_n 0, 1) := by decide +kernel
theorem dX9_readRule_95 : decode cX9_readRule 95 = .ok (.ldc 86, 2) := by decide +kernel
theorem dX9_readRule_97 : decode cX9_readRule 97 = .ok (.invokevirtual 16, 3) := by decide +kernel
theorem dX9_readRule_100 : decode cX9_readRule 100 = .ok (.ifCond .eq 20, 3) := by decide +kernel
theorem dX9_readRule_103 : decode cX9_readRule 103 = .ok (.aload_n 1, 1) := by decide +kernel
theorem dX9_readRule_104 : decode cX9_readRule 104 = .ok (.dup, 1) := by decide +kernel
theorem dX9_readRule_105 : decode cX9_readRule 105 = .ok (.getfield 83, 3) := by decide +kernel
theorem dX9_readRule_108 : decode cX9_readRule 108 = .ok (.bipush 40, 2) := by decide +kernel
theorem dX9_readRule_110 : decode cX9_readRule 110 = .ok (.ior, 1) := by decide +kernel
theorem dX9_readRule_111 : decode cX9_readRule 111 = .ok (.putfield 83, 3) := by decide +kernel
theorem dX9_readRule_114 : decode cX9_readRule 114 = .ok (.aload_n 1, 1) := by decide +kernel
theorem dX9_readRule_115 : decode cX9_readRule 115 = .ok (.iconst 2, 1) := by decide +kernel
theorem dX9_readRule_116 : decode cX9_readRule 116 = .ok (.invokevirtual 75, 3) := by decide +kernel
theorem dX9_readRule_119 : decode cX9_readRule 119 = .ok (.ireturn, 1) := by decide +kernel
theorem dX9_readRule_120 : decode cX9_readRule 120 = .ok (.aload_n 0, 1) := by decide +kernel
theorem dX9_readRule_121 : decode cX9_readRule 121 = .ok (.ldc 88, 2) := by decide +kernel
theorem dX9_readRule_123 : decode cX9_readRule 123 = .ok (.invokevirtual 16, 3) := by decide +kernel
theorem dX9_readRule_126 : decode cX9_readRule 126 = .ok (.ifCond .eq 20, 3) := by decide +kernel
theorem dX9_readRule_129 : decode cX9_readRule 129 = .ok (.aload_n 1, 1) := by decide +kernel
theorem dX9_readRule_130 : decode cX9_readRule 130 = .ok (.dup, 1) := by decide +kernel
theorem dX9_readRule_131 : decode cX9_readRule 131 = .ok (.getfield 83, 3) := by decide +kernel
theorem dX9_readRule_134 : decode cX9_readRule 134 = .ok (.bipush 120, 2) := by decide +kernel
theorem dX9_readRule_136 : decode cX9_readRule 136 = .ok (.ior, 1) := by decide +kernel
theorem dX9_readRule_137 : decode cX9_readRule 137 = .ok (.putfield 83, 3) := by decide +kernel
theorem dX9_readRule_140 : decode cX9_readRule 140 = .ok (.aload_n 1, 1) := by decide +kernel
theorem dX9_readRule_141 : decode cX9_readRule 141 = .ok (.iconst 4, 1) := by decide +kernel
theorem dX9_readRule_142 : decode cX9_readRule 142 = .ok (.invokevirtual 75, 3) := by decide +kernel
theorem dX9_readRule_145 : decode cX9_readRule 145 = .ok (.ireturn, 1) := by decide +kernel
theorem dX9_readRule_146 : decode cX9_readRule 146 = .ok (.aload_n 0, 1) := by decide +kernel
theorem dX9_readRule_147 : decode cX9_readRule 147 = .ok (.ldc 90, 2) := by decide +kernel
theorem dX9_readRule_149 : decode cX9_readRule 149 = .ok (.invokevirtual 16, 3) := by decide +kernel
theorem dX9_readRule_152 : decode cX9_readRule 152 = .ok (.ifCond .eq 30, 3) := by decide +kernel
theorem dX9_readRule_155 : decode cX9_readRule 155 = .ok (.aload_n 1, 1) := by decide +kernel
theorem dX9_readRule_156 : decode cX9_readRule 156 = .ok (.iconst 1, 1) := by decide +kernel
theorem dX9_readRule_157 : decode cX9_readRule 157 = .ok (.putfield 92, 3) := by decide +kernel
theorem dX9_readRule_160 : decode cX9_readRule 160 = .ok (.aload_n 1, 1) := by decide +kernel
theorem dX9_readRule_161 : decode cX9_readRule 161 = .ok (.getfield 32, 3) := by decide +kernel
theorem dX9_readRule_164 : decode cX9_readRule 164 = .ok (.ifCond .eq 16, 3) := by decide +kernel
theorem dX9_readRule_167 : decode cX9_readRule 167 = .ok (.aload_n 1, 1) := by decide +kernel
theorem dX9_readRule_168 : decode cX9_readRule 168 = .ok (.bipush 8, 2) := by decide +kernel
theorem dX9_readRule_170 : decode cX9_readRule 170 = .ok (.invokevirtual 75, 3) := by decide +kernel
theorem dX9_readRule_173 : decode cX9_readRule 173 = .ok (.ifCond .eq 7, 3) := by decide +kernel
theorem dX9_readRule_176 : decode cX9_readRule 176 = .ok (.iconst 1, 1) := by decide +kernel
theorem dX9_readRule_177 : decode cX9_readRule 177 = .ok (.goto 4, 3) := by decide +kernel
theorem dX9_readRule_180 : decode cX9_readRule 180 = .ok (.iconst 0, 1) := by decide +kernel
theorem dX9_readRule_181 : decode cX9_readRule 181 = .ok (.ireturn, 1) := by decide +kernel
theorem dX9_readRule_182 : decode cX9_readRule 182 = .ok (.iconst 0, 1) := by decide +kernel
theorem dX9_readRule_183 : decode cX9_readRule 183 = .ok (.ireturn, 1) := by decide +kernel
set_option maxHeartbeats 4000000 in
set_option maxRecDepth 100000 in
theorem c_X9_readRule (l : Launch) (D : eD) (T : Nat → ClassId) (h_p0 h_p0_bytes h_p1 h_p1_patternNodes h_p1_patternCodes : Nat) (p0_begun : Int32) (p0_length : Int32) (p0_position : Int32) (p0_wrong : Int32) (p0_bytes : Nat → Int32) (p1_bannedCircles : Int32) (p1_endLines : Int32) (p1_endsJoined : Int32) (p1_fewestEdges : Int32) (p1_hasDark : Int32) (p1_least : Int32) (p1_most : Int32) (p1_mostEdges : Int32) (p1_patterns : Int32) (p1_ruleLines : Int32) (p1_size : Int32) (p1_unlike : Int32) (p1_words : Int32) (post : Int32 → Int32 → Int32 → Int32 → Int32 → Int32 → Int32 → Prop) (h : F_X9_readRule p0_length p0_bytes p1_hasDark p0_begun p0_position p1_bannedCircles p1_most p1_unlike p1_words post) : cI l D T yX9_readRule cX9_readRule 3 (some .boolean) 6 163 0 0 [.ref h_p0, .ref h_p1] [(h_p0, .inr (7, [.ref h_p0_bytes, .int p0_length, .int p0_position, .int p0_begun, .int p0_wrong])), (h_p0_bytes, aI T 400 p0_bytes), (h_p1, .inr (5, [.int p1_size, .int p1_hasDark, .int p1_words, .int p1_ruleLines, .int p1_endLines, .int p1_most, .int p1_bannedCircles, .int p1_unlike, .int p1_patterns, .ref h_p1_patternNodes, .ref h_p1_patternCodes, .int p1_endsJoined, .int p1_fewestEdges, .int p1_mostEdges, .int p1_least]))] (fun r w1 => ∃ (p0_begun1 : Int32) (p0_position1 : Int32) (p1_bannedCircles1 : Int32) (p1_most1 : Int32) (p1_unlike1 : Int32) (p1_words1 : Int32), w1 = [(h_p0, .inr (7, [.ref h_p0_bytes, .int p0_length, .int p0_position1, .int p0_begun1, .int p0_wrong])), (h_p0_bytes, aI T 400 p0_bytes), (h_p1, .inr (5, [.int p1_size, .int p1_hasDark, .int p1_words1, .int p1_ruleLines, .int p1_endLines, .int p1_most1, .int p1_bannedCircles1, .int p1_unlike1, .int p1_patterns, .ref h_p1_patternNodes, .ref h_p1_patternCodes, .int p1_endsJoined, .int p1_fewestEdges, .int p1_mostEdges, .int p1_least]))] ∧ post r p0_begun1 p0_position1 p1_bannedCircles1 p1_most1 p1_unlike1 p1_words1) := by
  refine xI_of (ty := .boolean) (by decide +kernel) (Nat.le_of_ble_eq_true rfl) rfl ?_
  intro G X hret
  change G 0 0 0 [(0, .ref h_p0), (1, .ref h_p1)] [] [(h_p0, .inr (7, [.ref h_p0_bytes, .int p0_length, .int p0_position, .int p0_begun, .int p0_wrong])), (h_p0_bytes, aI T 400 p0_bytes), (h_p1, .inr (5, [.int p1_size, .int p1_hasDark, .int p1_words, .int p1_ruleLines, .int p1_endLines, .int p1_most, .int p1_bannedCircles, .int p1_unlike, .int p1_patterns, .ref h_p1_patternNodes, .ref h_p1_patternCodes, .int p1_endsJoined, .int p1_fewestEdges, .int p1_mostEdges, .int p1_least]))]
  unfold F_X9_readRule at h
  have k28 : ∀ (s1 : Int32) (p0_begun : Int32) (p0_position : Int32) (p1_bannedCircles : Int32) (p1_most : Int32) (p1_unlike : Int32) (p1_words : Int32), F_X9_readRule_28 p0_length p0_bytes p1_hasDark post s1 p0_begun p0_position p1_bannedCircles p1_most p1_unlike p1_words → G 0 0 28 [(1, .ref h_p1)] [.int s1, .ref h_p1] [(h_p0, .inr (7, [.ref h_p0_bytes, .int p0_length, .int p0_position, .int p0_begun, .int p0_wrong])), (h_p0_bytes, aI T 400 p0_bytes), (h_p1, .inr (5, [.int p1_size, .int p1_hasDark, .int p1_words, .int p1_ruleLines, .int p1_endLines, .int p1_most, .int p1_bannedCircles, .int p1_unlike, .int p1_patterns, .ref h_p1_patternNodes, .ref h_p1_patternCodes, .int p1_endsJoined, .int p1_fewestEdges, .int p1_mostEdges, .int p1_least]))] := by
    intro s1 p0_begun p0_position p1_bannedCircles p1_most p1_unlike p1_words h
    unfold F_X9_readRule_28 at h
    have k44 : ∀ (s0 : Int32) (p0_begun : Int32) (p0_position : Int32) (p1_bannedCircles : Int32) (p1_most : Int32) (p1_unlike : Int32) (p1_words : Int32), F_X9_readRule_44 p0_length p0_bytes p1_hasDark post s0 p0_begun p0_position p1_bannedCircles p1_most p1_unlike p1_words → G 0 0 44 [] [.int s0] [(h_p0, .inr (7, [.ref h_p0_bytes, .int p0_length, .int p0_position, .int p0_begun, .int p0_wrong])), (h_p0_bytes, aI T 400 p0_bytes), (h_p1, .inr (5, [.int p1_size, .int p1_hasDark, .int p1_words, .int p1_ruleLines, .int p1_endLines, .int p1_most, .int p1_bannedCircles, .int p1_unlike, .int p1_patterns, .ref h_p1_patternNodes, .ref h_p1_patternCodes, .int p1_endsJoined, .int p1_fewestEdges, .int p1_mostEdges, .int p1_least]))] := by
      intro s0 p0_begun p0_position p1_bannedCircles p1_most p1_unlike p1_words h
      unfold F_X9_readRule_44 at h
      obtain ⟨hz, h⟩ := h
      exact hret _ _ _ _ dX9_readRule_44 (e_nz hz) ⟨p0_begun, p0_position, p1_bannedCircles, p1_most, p1_unlike, p1_words, rfl, h⟩
    refine x_putN (ws' := [(h_p0, .inr (7, [.ref h_p0_bytes, .int p0_length, .int p0_position, .int p0_begun, .int p0_wrong])), (h_p0_bytes, aI T 400 p0_bytes), (h_p1, .inr (5, [.int p1_size, .int p1_hasDark, .int p1_words, .int p1_ruleLines, .int p1_endLines, .int s1, .int p1_bannedCircles, .int p1_unlike, .int p1_patterns, .ref h_p1_patternNodes, .ref h_p1_patternCodes, .int p1_endsJoined, .int p1_fewestEdges, .int p1_mostEdges, .int p1_least]))]) X inGX6 tyX6_ok nmX6 5 (by decide) rfl tw_88 dX9_readRule_28 rfl rfl 2 rfl rfl rfl (Nat.le_of_ble_eq_true rfl) rfl ?_
    refine x_aload_n X dX9_readRule_31 0 rfl ?_
    refine x_getN X inGX6 5 (by decide) rfl tw_88 dX9_readRule_32 rfl 2 rfl rfl ?_
    refine x_iconst (v := -1) X dX9_readRule_35 (by decide) ?_
    refine x_icmp_eq (tgt := 43) X dX9_readRule_36 (by decide) (fun hc => ?_) (fun hc => ?_)
    · have h := h.1 hc
      refine x_iconst (v := 0) X dX9_readRule_43 (by decide) ?_
      exact x_sub X [] rfl (k44 (0 : Int32) p0_begun p0_position p1_bannedCircles s1 p1_unlike p1_words h)
    · have h := h.2 hc
      refine x_iconst (v := 1) X dX9_readRule_39 (by decide) ?_
      refine x_goto (tgt := 44) X dX9_readRule_40 (by decide) ?_
      exact x_sub X [] rfl (k44 (1 : Int32) p0_begun p0_position p1_bannedCircles s1 p1_unlike p1_words h)
  have k79 : ∀ (x2 : Int32) (s1 : Int32) (s2 : Int32) (p0_begun : Int32) (p0_position : Int32) (p1_bannedCircles : Int32) (p1_most : Int32) (p1_unlike : Int32) (p1_words : Int32), F_X9_readRule_79 p0_length p0_bytes p1_hasDark post x2 s1 s2 p0_begun p0_position p1_bannedCircles p1_most p1_unlike p1_words → G 0 0 79 [(2, .int x2)] [.int s2, .int s1, .ref h_p1] [(h_p0, .inr (7, [.ref h_p0_bytes, .int p0_length, .int p0_position, .int p0_begun, .int p0_wrong])), (h_p0_bytes, aI T 400 p0_bytes), (h_p1, .inr (5, [.int p1_size, .int p1_hasDark, .int p1_words, .int p1_ruleLines, .int p1_endLines, .int p1_most, .int p1_bannedCircles, .int p1_unlike, .int p1_patterns, .ref h_p1_patternNodes, .ref h_p1_patternCodes, .int p1_endsJoined, .int p1_fewestEdges, .int p1_mostEdges, .int p1_least]))] := by
    intro x2 s1 s2 p0_begun p0_position p1_bannedCircles p1_most p1_unlike p1_words h
    unfold F_X9_readRule_79 at h
    have k93 : ∀ (s0 : Int32) (p0_begun : Int32) (p0_position : Int32) (p1_bannedCircles : Int32) (p1_most : Int32) (p1_unlike : Int32) (p1_words : Int32), F_X9_readRule_93 p0_length p0_bytes p1_hasDark post s0 p0_begun p0_position p1_bannedCircles p1_most p1_unlike p1_words → G 0 0 93 [] [.int s0] [(h_p0, .inr (7, [.ref h_p0_bytes, .int p0_length, .int p0_position, .int p0_begun, .int p0_wrong])), (h_p0_bytes, aI T 400 p0_bytes), (h_p1, .inr (5, [.int p1_size, .int p1_hasDark, .int p1_words, .int p1_ruleLines, .int p1_endLines, .int p1_most, .int p1_bannedCircles, .int p1_unlike, .int p1_patterns, .ref h_p1_patternNodes, .ref h_p1_patternCodes, .int p1_endsJoined, .int p1_fewestEdges, .int p1_mostEdges, .int p1_least]))] := by
      intro s0 p0_begun p0_position p1_bannedCircles p1_most p1_unlike p1_words h
      unfold F_X9_readRule_93 at h
      obtain ⟨hz, h⟩ := h
      exact hret _ _ _ _ dX9_readRule_93 (e_nz hz) ⟨p0_begun, p0_position, p1_bannedCircles, p1_most, p1_unlike, p1_words, rfl, h⟩
    refine x_ior X dX9_readRule_79 ?_
    refine x_putN (ws' := [(h_p0, .inr (7, [.ref h_p0_bytes, .int p0_length, .int p0_position, .int p0_begun, .int p0_wrong])), (h_p0_bytes, aI T 400 p0_bytes), (h_p1, .inr (5, [.int p1_size, .int p1_hasDark, .int p1_words, .int p1_ruleLines, .int p1_endLines, .int p1_most, .int (s1 ||| s2), .int p1_unlike, .int p1_patterns, .ref h_p1_patternNodes, .ref h_p1_patternCodes, .int p1_endsJoined, .int p1_fewestEdges, .int p1_mostEdges, .int p1_least]))]) X inGX6 tyX6_ok nmX6 6 (by decide) rfl tw_90 dX9_readRule_80 rfl rfl 2 rfl rfl rfl (Nat.le_of_ble_eq_true rfl) rfl ?_
    refine x_iload_n X dX9_readRule_83 0 rfl ?_
    refine x_iconst (v := -1) X dX9_readRule_84 (by decide) ?_
    refine x_icmp_eq (tgt := 92) X dX9_readRule_85 (by decide) (fun hc => ?_) (fun hc => ?_)
    · have h := h.1 hc
      refine x_iconst (v := 0) X dX9_readRule_92 (by decide) ?_
      exact x_sub X [] rfl (k93 (0 : Int32) p0_begun p0_position (s1 ||| s2) p1_most p1_unlike p1_words h)
    · have h := h.2 hc
      refine x_iconst (v := 1) X dX9_readRule_88 (by decide) ?_
      refine x_goto (tgt := 93) X dX9_readRule_89 (by decide) ?_
      exact x_sub X [] rfl (k93 (1 : Int32) p0_begun p0_position (s1 ||| s2) p1_most p1_unlike p1_words h)
  have k181 : ∀ (s0 : Int32) (p0_begun : Int32) (p0_position : Int32) (p1_bannedCircles : Int32) (p1_most : Int32) (p1_unlike : Int32) (p1_words : Int32), F_X9_readRule_181 p0_length p0_bytes p1_hasDark post s0 p0_begun p0_position p1_bannedCircles p1_most p1_unlike p1_words → G 0 0 181 [] [.int s0] [(h_p0, .inr (7, [.ref h_p0_bytes, .int p0_length, .int p0_position, .int p0_begun, .int p0_wrong])), (h_p0_bytes, aI T 400 p0_bytes), (h_p1, .inr (5, [.int p1_size, .int p1_hasDark, .int p1_words, .int p1_ruleLines, .int p1_endLines, .int p1_most, .int p1_bannedCircles, .int p1_unlike, .int p1_patterns, .ref h_p1_patternNodes, .ref h_p1_patternCodes, .int p1_endsJoined, .int p1_fewestEdges, .int p1_mostEdges, .int p1_least]))] := by
    intro s0 p0_begun p0_position p1_bannedCircles p1_most p1_unlike p1_words h
    unfold F_X9_readRule_181 at h
    obtain ⟨hz, h⟩ := h
    exact hret _ _ _ _ dX9_readRule_181 (e_nz hz) ⟨p0_begun, p0_position, p1_bannedCircles, p1_most, p1_unlike, p1_words, rfl, h⟩
  have k180 : ∀ (p0_begun : Int32) (p0_position : Int32) (p1_bannedCircles : Int32) (p1_most : Int32) (p1_unlike : Int32) (p1_words : Int32), F_X9_readRule_180 p0_length p0_bytes p1_hasDark post (fun s0 p0_begun p0_position p1_bannedCircles p1_most p1_unlike p1_words => F_X9_readRule_181 p0_length p0_bytes p1_hasDark post s0 p0_begun p0_position p1_bannedCircles p1_most p1_unlike p1_words) p0_begun p0_position p1_bannedCircles p1_most p1_unlike p1_words → G 0 0 180 [] [] [(h_p0, .inr (7, [.ref h_p0_bytes, .int p0_length, .int p0_position, .int p0_begun, .int p0_wrong])), (h_p0_bytes, aI T 400 p0_bytes), (h_p1, .inr (5, [.int p1_size, .int p1_hasDark, .int p1_words, .int p1_ruleLines, .int p1_endLines, .int p1_most, .int p1_bannedCircles, .int p1_unlike, .int p1_patterns, .ref h_p1_patternNodes, .ref h_p1_patternCodes, .int p1_endsJoined, .int p1_fewestEdges, .int p1_mostEdges, .int p1_least]))] := by
    intro p0_begun p0_position p1_bannedCircles p1_most p1_unlike p1_words h
    unfold F_X9_readRule_180 at h
    refine x_iconst (v := 0) X dX9_readRule_180 (by decide) ?_
    exact x_sub X [] rfl (k181 (0 : Int32) p0_begun p0_position p1_bannedCircles p1_most p1_unlike p1_words h)
  refine x_aload_n X dX9_readRule_0 0 rfl ?_
  refine x_ldcS X 8 (by decide) rfl rfl dX9_readRule_1 ?_
  refine x_callVI (av := [.ref (D.2.1 8)]) (st := []) (wr := [(h_p1, .inr (5, [.int p1_size, .int p1_hasDark, .int p1_words, .int p1_ruleLines, .int p1_endLines, .int p1_most, .int p1_bannedCircles, .int p1_unlike, .int p1_patterns, .ref h_p1_patternNodes, .ref h_p1_patternCodes, .int p1_endsJoined, .int p1_fewestEdges, .int p1_mostEdges, .int p1_least]))]) X (c_X8_takesWord l D T h_p0 h_p0_bytes p0_begun p0_length p0_position p0_wrong p0_bytes 8 _ h) yk_X8_takesWord tw_623 dX9_readRule_3 0 rfl rfl [0, 1] [2] rfl rfl rfl rfl (by decide) rfl rfl (Nat.le_of_ble_eq_true rfl) (Nat.le_of_ble_eq_true rfl) (Nat.le_of_ble_eq_true rfl) (Nat.zero_le _) (Nat.zero_le _) (fun r3 w1 hw => ?_)
  obtain ⟨p0_begun_3, p0_position_3, rfl, h⟩ := hw
  refine x_perm (ws2 := [(h_p0, .inr (7, [.ref h_p0_bytes, .int p0_length, .int p0_position_3, .int p0_begun_3, .int p0_wrong])), (h_p0_bytes, aI T 400 p0_bytes), (h_p1, .inr (5, [.int p1_size, .int p1_hasDark, .int p1_words, .int p1_ruleLines, .int p1_endLines, .int p1_most, .int p1_bannedCircles, .int p1_unlike, .int p1_patterns, .ref h_p1_patternNodes, .ref h_p1_patternCodes, .int p1_endsJoined, .int p1_fewestEdges, .int p1_mostEdges, .int p1_least]))]) X [1, 2, 0] rfl rfl ?_
  refine x_if_eq (tgt := 45) X dX9_readRule_6 (by decide) (fun hc => ?_) (fun hc => ?_)
  · have h := h.1 hc
    refine x_aload_n X dX9_readRule_45 0 rfl ?_
    refine x_ldcS X 9 (by decide) rfl rfl dX9_readRule_46 ?_
    refine x_callVI (av := [.ref (D.2.1 9)]) (st := []) (wr := [(h_p1, .inr (5, [.int p1_size, .int p1_hasDark, .int p1_words, .int p1_ruleLines, .int p1_endLines, .int p1_most, .int p1_bannedCircles, .int p1_unlike, .int p1_patterns, .ref h_p1_patternNodes, .ref h_p1_patternCodes, .int p1_endsJoined, .int p1_fewestEdges, .int p1_mostEdges, .int p1_least]))]) X (c_X8_takesWord l D T h_p0 h_p0_bytes p0_begun_3 p0_length p0_position_3 p0_wrong p0_bytes 9 _ h) yk_X8_takesWord tw_623 dX9_readRule_48 0 rfl rfl [0, 1] [2] rfl rfl rfl rfl (by decide) rfl rfl (Nat.le_of_ble_eq_true rfl) (Nat.le_of_ble_eq_true rfl) (Nat.le_of_ble_eq_true rfl) (Nat.zero_le _) (Nat.zero_le _) (fun r48 w1 hw => ?_)
    obtain ⟨p0_begun_48, p0_position_48, rfl, h⟩ := hw
    refine x_perm (ws2 := [(h_p0, .inr (7, [.ref h_p0_bytes, .int p0_length, .int p0_position_48, .int p0_begun_48, .int p0_wrong])), (h_p0_bytes, aI T 400 p0_bytes), (h_p1, .inr (5, [.int p1_size, .int p1_hasDark, .int p1_words, .int p1_ruleLines, .int p1_endLines, .int p1_most, .int p1_bannedCircles, .int p1_unlike, .int p1_patterns, .ref h_p1_patternNodes, .ref h_p1_patternCodes, .int p1_endsJoined, .int p1_fewestEdges, .int p1_mostEdges, .int p1_least]))]) X [1, 2, 0] rfl rfl ?_
    refine x_if_eq (tgt := 94) X dX9_readRule_51 (by decide) (fun hc => ?_) (fun hc => ?_)
    · have h := h.1 hc
      refine x_aload_n X dX9_readRule_94 0 rfl ?_
      refine x_ldcS X 10 (by decide) rfl rfl dX9_readRule_95 ?_
      refine x_callVI (av := [.ref (D.2.1 10)]) (st := []) (wr := [(h_p1, .inr (5, [.int p1_size, .int p1_hasDark, .int p1_words, .int p1_ruleLines, .int p1_endLines, .int p1_most, .int p1_bannedCircles, .int p1_unlike, .int p1_patterns, .ref h_p1_patternNodes, .ref h_p1_patternCodes, .int p1_endsJoined, .int p1_fewestEdges, .int p1_mostEdges, .int p1_least]))]) X (c_X8_takesWord l D T h_p0 h_p0_bytes p0_begun_48 p0_length p0_position_48 p0_wrong p0_bytes 10 _ h) yk_X8_takesWord tw_623 dX9_readRule_97 0 rfl rfl [0, 1] [2] rfl rfl rfl rfl (by decide) rfl rfl (Nat.le_of_ble_eq_true rfl) (Nat.le_of_ble_eq_true rfl) (Nat.le_of_ble_eq_true rfl) (Nat.zero_le _) (Nat.zero_le _) (fun r97 w1 hw => ?_)
      obtain ⟨p0_begun_97, p0_position_97, rfl, h⟩ := hw
      refine x_perm (ws2 := [(h_p0, .inr (7, [.ref h_p0_bytes, .int p0_length, .int p0_position_97, .int p0_begun_97, .int p0_wrong])), (h_p0_bytes, aI T 400 p0_bytes), (h_p1, .inr (5, [.int p1_size, .int p1_hasDark, .int p1_words, .int p1_ruleLines, .int p1_endLines, .int p1_most, .int p1_bannedCircles, .int p1_unlike, .int p1_patterns, .ref h_p1_patternNodes, .ref h_p1_patternCodes, .int p1_endsJoined, .int p1_fewestEdges, .int p1_mostEdges, .int p1_least]))]) X [1, 2, 0] rfl rfl ?_
      refine x_if_eq (tgt := 120) X dX9_readRule_100 (by decide) (fun hc => ?_) (fun hc => ?_)
      · have h := h.1 hc
        refine x_aload_n X dX9_readRule_120 0 rfl ?_
        refine x_ldcS X 11 (by decide) rfl rfl dX9_readRule_121 ?_
        refine x_callVI (av := [.ref (D.2.1 11)]) (st := []) (wr := [(h_p1, .inr (5, [.int p1_size, .int p1_hasDark, .int p1_words, .int p1_ruleLines, .int p1_endLines, .int p1_most, .int p1_bannedCircles, .int p1_unlike, .int p1_patterns, .ref h_p1_patternNodes, .ref h_p1_patternCodes, .int p1_endsJoined, .int p1_fewestEdges, .int p1_mostEdges, .int p1_least]))]) X (c_X8_takesWord l D T h_p0 h_p0_bytes p0_begun_97 p0_length p0_position_97 p0_wrong p0_bytes 11 _ h) yk_X8_takesWord tw_623 dX9_readRule_123 0 rfl rfl [0, 1] [2] rfl rfl rfl rfl (by decide) rfl rfl (Nat.le_of_ble_eq_true rfl) (Nat.le_of_ble_eq_true rfl) (Nat.le_of_ble_eq_true rfl) (Nat.zero_le _) (Nat.zero_le _) (fun r123 w1 hw => ?_)
        obtain ⟨p0_begun_123, p0_position_123, rfl, h⟩ := hw
        refine x_perm (ws2 := [(h_p0, .inr (7, [.ref h_p0_bytes, .int p0_length, .int p0_position_123, .int p0_begun_123, .int p0_wrong])), (h_p0_bytes, aI T 400 p0_bytes), (h_p1, .inr (5, [.int p1_size, .int p1_hasDark, .int p1_words, .int p1_ruleLines, .int p1_endLines, .int p1_most, .int p1_bannedCircles, .int p1_unlike, .int p1_patterns, .ref h_p1_patternNodes, .ref h_p1_patternCodes, .int p1_endsJoined, .int p1_fewestEdges, .int p1_mostEdges, .int p1_least]))]) X [1, 2, 0] rfl rfl ?_
        refine x_if_eq (tgt := 146) X dX9_readRule_126 (by decide) (fun hc => ?_) (fun hc => ?_)
        · have h := h.1 hc
          refine x_aload_n X dX9_readRule_146 0 rfl ?_
          refine x_ldcS X 12 (by decide) rfl rfl dX9_readRule_147 ?_
          refine x_callVI (av := [.ref (D.2.1 12)]) (st := []) (wr := [(h_p1, .inr (5, [.int p1_size, .int p1_hasDark, .int p1_words, .int p1_ruleLines, .int p1_endLines, .int p1_most, .int p1_bannedCircles, .int p1_unlike, .int p1_patterns, .ref h_p1_patternNodes, .ref h_p1_patternCodes, .int p1_endsJoined, .int p1_fewestEdges, .int p1_mostEdges, .int p1_least]))]) X (c_X8_takesWord l D T h_p0 h_p0_bytes p0_begun_123 p0_length p0_position_123 p0_wrong p0_bytes 12 _ h) yk_X8_takesWord tw_623 dX9_readRule_149 0 rfl rfl [0, 1] [2] rfl rfl rfl rfl (by decide) rfl rfl (Nat.le_of_ble_eq_true rfl) (Nat.le_of_ble_eq_true rfl) (Nat.le_of_ble_eq_true rfl) (Nat.zero_le _) (Nat.zero_le _) (fun r149 w1 hw => ?_)
          obtain ⟨p0_begun_149, p0_position_149, rfl, h⟩ := hw
          refine x_perm (ws2 := [(h_p0, .inr (7, [.ref h_p0_bytes, .int p0_length, .int p0_position_149, .int p0_begun_149, .int p0_wrong])), (h_p0_bytes, aI T 400 p0_bytes), (h_p1, .inr (5, [.int p1_size, .int p1_hasDark, .int p1_words, .int p1_ruleLines, .int p1_endLines, .int p1_most, .int p1_bannedCircles, .int p1_unlike, .int p1_patterns, .ref h_p1_patternNodes, .ref h_p1_patternCodes, .int p1_endsJoined, .int p1_fewestEdges, .int p1_mostEdges, .int p1_least]))]) X [1, 2, 0] rfl rfl ?_
          refine x_if_eq (tgt := 182) X dX9_readRule_152 (by decide) (fun hc => ?_) (fun hc => ?_)
          · have h := h.1 hc
            refine x_iconst (v := 0) X dX9_readRule_182 (by decide) ?_
            obtain ⟨hz, h⟩ := h
            exact hret _ _ _ _ dX9_readRule_183 (e_nz hz) ⟨p0_begun_149, p0_position_149, p1_bannedCircles, p1_most, p1_unlike, p1_words, rfl, h⟩
          · have h := h.2 hc
            refine x_aload_n X dX9_readRule_155 1 rfl ?_
            refine x_iconst (v := 1) X dX9_readRule_156 (by decide) ?_
            refine x_putN (ws' := [(h_p0, .inr (7, [.ref h_p0_bytes, .int p0_length, .int p0_position_149, .int p0_begun_149, .int p0_wrong])), (h_p0_bytes, aI T 400 p0_bytes), (h_p1, .inr (5, [.int p1_size, .int p1_hasDark, .int p1_words, .int p1_ruleLines, .int p1_endLines, .int p1_most, .int p1_bannedCircles, .int (1 : Int32), .int p1_patterns, .ref h_p1_patternNodes, .ref h_p1_patternCodes, .int p1_endsJoined, .int p1_fewestEdges, .int p1_mostEdges, .int p1_least]))]) X inGX6 tyX6_ok nmX6 7 (by decide) rfl tw_92 dX9_readRule_157 rfl rfl 2 rfl rfl rfl (Nat.le_of_ble_eq_true rfl) rfl ?_
            refine x_aload_n X dX9_readRule_160 1 rfl ?_
            refine x_getN X inGX6 1 (by decide) rfl tw_77 dX9_readRule_161 rfl 2 rfl rfl ?_
            refine x_if_eq (tgt := 180) X dX9_readRule_164 (by decide) (fun hc => ?_) (fun hc => ?_)
            · have h := h.1 hc
              exact x_sub X [] rfl (k180 p0_begun_149 p0_position_149 p1_bannedCircles p1_most (1 : Int32) p1_words h)
            · have h := h.2 hc
              refine x_aload_n X dX9_readRule_167 1 rfl ?_
              refine x_bipush (v := 8) X dX9_readRule_168 (by decide) ?_
              refine x_callVI (av := [.int (8 : Int32)]) (st := []) (wr := [(h_p0, .inr (7, [.ref h_p0_bytes, .int p0_length, .int p0_position_149, .int p0_begun_149, .int p0_wrong])), (h_p0_bytes, aI T 400 p0_bytes)]) X (c_X6_tellsFirst l D T h_p1 h_p1_patternNodes h_p1_patternCodes p1_bannedCircles p1_endLines p1_endsJoined p1_fewestEdges p1_hasDark p1_least p1_most p1_mostEdges p1_patterns p1_ruleLines p1_size (1 : Int32) p1_words (8 : Int32) _ h) yk_X6_tellsFirst tw_712 dX9_readRule_170 2 rfl rfl [2] [0, 1] rfl rfl rfl rfl (by decide) rfl rfl (Nat.le_of_ble_eq_true rfl) (Nat.le_of_ble_eq_true rfl) (Nat.le_of_ble_eq_true rfl) (Nat.zero_le _) (Nat.zero_le _) (fun r170 w1 hw => ?_)
              obtain ⟨p1_words_170, rfl, h⟩ := hw
              refine x_perm (ws2 := [(h_p0, .inr (7, [.ref h_p0_bytes, .int p0_length, .int p0_position_149, .int p0_begun_149, .int p0_wrong])), (h_p0_bytes, aI T 400 p0_bytes), (h_p1, .inr (5, [.int p1_size, .int p1_hasDark, .int p1_words_170, .int p1_ruleLines, .int p1_endLines, .int p1_most, .int p1_bannedCircles, .int (1 : Int32), .int p1_patterns, .ref h_p1_patternNodes, .ref h_p1_patternCodes, .int p1_endsJoined, .int p1_fewestEdges, .int p1_mostEdges, .int p1_least]))]) X [0, 1, 2] rfl rfl ?_
              refine x_if_eq (tgt := 180) X dX9_readRule_173 (by decide) (fun hc => ?_) (fun hc => ?_)
              · have h := h.1 hc
                exact x_sub X [] rfl (k180 p0_begun_149 p0_position_149 p1_bannedCircles p1_most (1 : Int32) p1_words_170 h)
              · have h := h.2 hc
                refine x_iconst (v := 1) X dX9_readRule_176 (by decide) ?_
                refine x_goto (tgt := 181) X dX9_readRule_177 (by decide) ?_
                exact x_sub X [] rfl (k181 (1 : Int32) p0_begun_149 p0_position_149 p1_bannedCircles p1_most (1 : Int32) p1_words_170 h)
        · have h := h.2 hc
          refine x_aload_n X dX9_readRule_129 1 rfl ?_
          refine x_dup X dX9_readRule_130 rfl ?_
          refine x_getN X inGX6 6 (by decide) rfl tw_90 dX9_readRule_131 rfl 2 rfl rfl ?_
          refine x_bipush (v := 120) X dX9_readRule_134 (by decide) ?_
          refine x_ior X dX9_readRule_136 ?_
          refine x_putN (ws' := [(h_p0, .inr (7, [.ref h_p0_bytes, .int p0_length, .int p0_position_123, .int p0_begun_123, .int p0_wrong])), (h_p0_bytes, aI T 400 p0_bytes), (h_p1, .inr (5, [.int p1_size, .int p1_hasDark, .int p1_words, .int p1_ruleLines, .int p1_endLines, .int p1_most, .int (p1_bannedCircles ||| (120 : Int32)), .int p1_unlike, .int p1_patterns, .ref h_p1_patternNodes, .ref h_p1_patternCodes, .int p1_endsJoined, .int p1_fewestEdges, .int p1_mostEdges, .int p1_least]))]) X inGX6 tyX6_ok nmX6 6 (by decide) rfl tw_90 dX9_readRule_137 rfl rfl 2 rfl rfl rfl (Nat.le_of_ble_eq_true rfl) rfl ?_
          refine x_aload_n X dX9_readRule_140 1 rfl ?_
          refine x_iconst (v := 4) X dX9_readRule_141 (by decide) ?_
          refine x_callVI (av := [.int (4 : Int32)]) (st := []) (wr := [(h_p0, .inr (7, [.ref h_p0_bytes, .int p0_length, .int p0_position_123, .int p0_begun_123, .int p0_wrong])), (h_p0_bytes, aI T 400 p0_bytes)]) X (c_X6_tellsFirst l D T h_p1 h_p1_patternNodes h_p1_patternCodes (p1_bannedCircles ||| (120 : Int32)) p1_endLines p1_endsJoined p1_fewestEdges p1_hasDark p1_least p1_most p1_mostEdges p1_patterns p1_ruleLines p1_size p1_unlike p1_words (4 : Int32) _ h) yk_X6_tellsFirst tw_712 dX9_readRule_142 2 rfl rfl [2] [0, 1] rfl rfl rfl rfl (by decide) rfl rfl (Nat.le_of_ble_eq_true rfl) (Nat.le_of_ble_eq_true rfl) (Nat.le_of_ble_eq_true rfl) (Nat.zero_le _) (Nat.zero_le _) (fun r142 w1 hw => ?_)
          obtain ⟨p1_words_142, rfl, h⟩ := hw
          refine x_perm (ws2 := [(h_p0, .inr (7, [.ref h_p0_bytes, .int p0_length, .int p0_position_123, .int p0_begun_123, .int p0_wrong])), (h_p0_bytes, aI T 400 p0_bytes), (h_p1, .inr (5, [.int p1_size, .int p1_hasDark, .int p1_words_142, .int p1_ruleLines, .int p1_endLines, .int p1_most, .int (p1_bannedCircles ||| (120 : Int32)), .int p1_unlike, .int p1_patterns, .ref h_p1_patternNodes, .ref h_p1_patternCodes, .int p1_endsJoined, .int p1_fewestEdges, .int p1_mostEdges, .int p1_least]))]) X [0, 1, 2] rfl rfl ?_
          obtain ⟨hz, h⟩ := h
          exact hret _ _ _ _ dX9_readRule_145 (e_nz hz) ⟨p0_begun_123, p0_position_123, (p1_bannedCircles ||| (120 : Int32)), p1_most, p1_unlike, p1_words_142, rfl, h⟩
      · have h := h.2 hc
        refine x_aload_n X dX9_readRule_103 1 rfl ?_
        refine x_dup X dX9_readRule_104 rfl ?_
        refine x_getN X inGX6 6 (by decide) rfl tw_90 dX9_readRule_105 rfl 2 rfl rfl ?_
        refine x_bipush (v := 40) X dX9_readRule_108 (by decide) ?_
        refine x_ior X dX9_readRule_110 ?_
        refine x_putN (ws' := [(h_p0, .inr (7, [.ref h_p0_bytes, .int p0_length, .int p0_position_97, .int p0_begun_97, .int p0_wrong])), (h_p0_bytes, aI T 400 p0_bytes), (h_p1, .inr (5, [.int p1_size, .int p1_hasDark, .int p1_words, .int p1_ruleLines, .int p1_endLines, .int p1_most, .int (p1_bannedCircles ||| (40 : Int32)), .int p1_unlike, .int p1_patterns, .ref h_p1_patternNodes, .ref h_p1_patternCodes, .int p1_endsJoined, .int p1_fewestEdges, .int p1_mostEdges, .int p1_least]))]) X inGX6 tyX6_ok nmX6 6 (by decide) rfl tw_90 dX9_readRule_111 rfl rfl 2 rfl rfl rfl (Nat.le_of_ble_eq_true rfl) rfl ?_
        refine x_aload_n X dX9_readRule_114 1 rfl ?_
        refine x_iconst (v := 2) X dX9_readRule_115 (by decide) ?_
        refine x_callVI (av := [.int (2 : Int32)]) (st := []) (wr := [(h_p0, .inr (7, [.ref h_p0_bytes, .int p0_length, .int p0_position_97, .int p0_begun_97, .int p0_wrong])), (h_p0_bytes, aI T 400 p0_bytes)]) X (c_X6_tellsFirst l D T h_p1 h_p1_patternNodes h_p1_patternCodes (p1_bannedCircles ||| (40 : Int32)) p1_endLines p1_endsJoined p1_fewestEdges p1_hasDark p1_least p1_most p1_mostEdges p1_patterns p1_ruleLines p1_size p1_unlike p1_words (2 : Int32) _ h) yk_X6_tellsFirst tw_712 dX9_readRule_116 2 rfl rfl [2] [0, 1] rfl rfl rfl rfl (by decide) rfl rfl (Nat.le_of_ble_eq_true rfl) (Nat.le_of_ble_eq_true rfl) (Nat.le_of_ble_eq_true rfl) (Nat.zero_le _) (Nat.zero_le _) (fun r116 w1 hw => ?_)
        obtain ⟨p1_words_116, rfl, h⟩ := hw
        refine x_perm (ws2 := [(h_p0, .inr (7, [.ref h_p0_bytes, .int p0_length, .int p0_position_97, .int p0_begun_97, .int p0_wrong])), (h_p0_bytes, aI T 400 p0_bytes), (h_p1, .inr (5, [.int p1_size, .int p1_hasDark, .int p1_words_116, .int p1_ruleLines, .int p1_endLines, .int p1_most, .int (p1_bannedCircles ||| (40 : Int32)), .int p1_unlike, .int p1_patterns, .ref h_p1_patternNodes, .ref h_p1_patternCodes, .int p1_endsJoined, .int p1_fewestEdges, .int p1_mostEdges, .int p1_least]))]) X [0, 1, 2] rfl rfl ?_
        obtain ⟨hz, h⟩ := h
        exact hret _ _ _ _ dX9_readRule_119 (e_nz hz) ⟨p0_begun_97, p0_position_97, (p1_bannedCircles ||| (40 : Int32)), p1_most, p1_unlike, p1_words_116, rfl, h⟩
    · have h := h.2 hc
      refine x_aload_n X dX9_readRule_54 0 rfl ?_
      refine x_iconst (v := 3) X dX9_readRule_55 (by decide) ?_
      refine x_bipush (v := 6) X dX9_readRule_56 (by decide) ?_
      refine x_callVI (av := [.int (3 : Int32), .int (6 : Int32)]) (st := []) (wr := [(h_p1, .inr (5, [.int p1_size, .int p1_hasDark, .int p1_words, .int p1_ruleLines, .int p1_endLines, .int p1_most, .int p1_bannedCircles, .int p1_unlike, .int p1_patterns, .ref h_p1_patternNodes, .ref h_p1_patternCodes, .int p1_endsJoined, .int p1_fewestEdges, .int p1_mostEdges, .int p1_least]))]) X (c_X8_takeNumber l D T h_p0 h_p0_bytes p0_begun_48 p0_length p0_position_48 p0_wrong p0_bytes (3 : Int32) (6 : Int32) _ h) yk_X8_takeNumber tw_687 dX9_readRule_58 0 rfl rfl [0, 1] [2] rfl rfl rfl rfl (by decide) rfl rfl (Nat.le_of_ble_eq_true rfl) (Nat.le_of_ble_eq_true rfl) (Nat.le_of_ble_eq_true rfl) (Nat.zero_le _) (Nat.zero_le _) (fun r58 w1 hw => ?_)
      obtain ⟨p0_begun_58, p0_position_58, rfl, h⟩ := hw
      refine x_perm (ws2 := [(h_p0, .inr (7, [.ref h_p0_bytes, .int p0_length, .int p0_position_58, .int p0_begun_58, .int p0_wrong])), (h_p0_bytes, aI T 400 p0_bytes), (h_p1, .inr (5, [.int p1_size, .int p1_hasDark, .int p1_words, .int p1_ruleLines, .int p1_endLines, .int p1_most, .int p1_bannedCircles, .int p1_unlike, .int p1_patterns, .ref h_p1_patternNodes, .ref h_p1_patternCodes, .int p1_endsJoined, .int p1_fewestEdges, .int p1_mostEdges, .int p1_least]))]) X [1, 2, 0] rfl rfl ?_
      refine x_istore_n (lv' := [(2, .int r58), (0, .ref h_p0), (1, .ref h_p1)]) X dX9_readRule_61 (by decide) rfl ?_
      refine x_aload_n X dX9_readRule_62 2 rfl ?_
      refine x_dup X dX9_readRule_63 rfl ?_
      refine x_getN X inGX6 6 (by decide) rfl tw_90 dX9_readRule_64 rfl 2 rfl rfl ?_
      refine x_iload_n X dX9_readRule_67 0 rfl ?_
      refine x_iconst (v := -1) X dX9_readRule_68 (by decide) ?_
      refine x_icmp_ne (tgt := 76) X dX9_readRule_69 (by decide) (fun hc => ?_) (fun hc => ?_)
      · have h := h.1 hc
        refine x_iconst (v := 1) X dX9_readRule_76 (by decide) ?_
        refine x_iload_n X dX9_readRule_77 0 rfl ?_
        refine x_ishl X dX9_readRule_78 ?_
        exact x_sub X [0] rfl (k79 r58 p1_bannedCircles ((1 : Int32) <<< (r58 &&& 31)) p0_begun_58 p0_position_58 p1_bannedCircles p1_most p1_unlike p1_words h)
      · have h := h.2 hc
        refine x_iconst (v := 0) X dX9_readRule_72 (by decide) ?_
        refine x_goto (tgt := 79) X dX9_readRule_73 (by decide) ?_
        exact x_sub X [0] rfl (k79 r58 p1_bannedCircles (0 : Int32) p0_begun_58 p0_position_58 p1_bannedCircles p1_most p1_unlike p1_words h)
  · have h := h.2 hc
    refine x_aload_n X dX9_readRule_9 1 rfl ?_
    refine x_aload_n X dX9_readRule_10 1 rfl ?_
    refine x_iconst (v := 1) X dX9_readRule_11 (by decide) ?_
    refine x_callVI (av := [.int (1 : Int32)]) (st := [.ref h_p1]) (wr := [(h_p0, .inr (7, [.ref h_p0_bytes, .int p0_length, .int p0_position_3, .int p0_begun_3, .int p0_wrong])), (h_p0_bytes, aI T 400 p0_bytes)]) X (c_X6_tellsFirst l D T h_p1 h_p1_patternNodes h_p1_patternCodes p1_bannedCircles p1_endLines p1_endsJoined p1_fewestEdges p1_hasDark p1_least p1_most p1_mostEdges p1_patterns p1_ruleLines p1_size p1_unlike p1_words (1 : Int32) _ h) yk_X6_tellsFirst tw_712 dX9_readRule_12 2 rfl rfl [2] [0, 1] rfl rfl rfl rfl (by decide) rfl rfl (Nat.le_of_ble_eq_true rfl) (Nat.le_of_ble_eq_true rfl) (Nat.le_of_ble_eq_true rfl) (Nat.zero_le _) (Nat.zero_le _) (fun r12 w1 hw => ?_)
    obtain ⟨p1_words_12, rfl, h⟩ := hw
    refine x_perm (ws2 := [(h_p0, .inr (7, [.ref h_p0_bytes, .int p0_length, .int p0_position_3, .int p0_begun_3, .int p0_wrong])), (h_p0_bytes, aI T 400 p0_bytes), (h_p1, .inr (5, [.int p1_size, .int p1_hasDark, .int p1_words_12, .int p1_ruleLines, .int p1_endLines, .int p1_most, .int p1_bannedCircles, .int p1_unlike, .int p1_patterns, .ref h_p1_patternNodes, .ref h_p1_patternCodes, .int p1_endsJoined, .int p1_fewestEdges, .int p1_mostEdges, .int p1_least]))]) X [0, 1, 2] rfl rfl ?_
    refine x_if_eq (tgt := 27) X dX9_readRule_15 (by decide) (fun hc => ?_) (fun hc => ?_)
    · have h := h.1 hc
      refine x_iconst (v := -1) X dX9_readRule_27 (by decide) ?_
      exact x_sub X [1] rfl (k28 (-1 : Int32) p0_begun_3 p0_position_3 p1_bannedCircles p1_most p1_unlike p1_words_12 h)
    · have h := h.2 hc
      refine x_aload_n X dX9_readRule_18 0 rfl ?_
      refine x_iconst (v := 0) X dX9_readRule_19 (by decide) ?_
      refine x_iconst (v := 5) X dX9_readRule_20 (by decide) ?_
      refine x_callVI (av := [.int (0 : Int32), .int (5 : Int32)]) (st := [.ref h_p1]) (wr := [(h_p1, .inr (5, [.int p1_size, .int p1_hasDark, .int p1_words_12, .int p1_ruleLines, .int p1_endLines, .int p1_most, .int p1_bannedCircles, .int p1_unlike, .int p1_patterns, .ref h_p1_patternNodes, .ref h_p1_patternCodes, .int p1_endsJoined, .int p1_fewestEdges, .int p1_mostEdges, .int p1_least]))]) X (c_X8_takeNumber l D T h_p0 h_p0_bytes p0_begun_3 p0_length p0_position_3 p0_wrong p0_bytes (0 : Int32) (5 : Int32) _ h) yk_X8_takeNumber tw_687 dX9_readRule_21 0 rfl rfl [0, 1] [2] rfl rfl rfl rfl (by decide) rfl rfl (Nat.le_of_ble_eq_true rfl) (Nat.le_of_ble_eq_true rfl) (Nat.le_of_ble_eq_true rfl) (Nat.zero_le _) (Nat.zero_le _) (fun r21 w1 hw => ?_)
      obtain ⟨p0_begun_21, p0_position_21, rfl, h⟩ := hw
      refine x_perm (ws2 := [(h_p0, .inr (7, [.ref h_p0_bytes, .int p0_length, .int p0_position_21, .int p0_begun_21, .int p0_wrong])), (h_p0_bytes, aI T 400 p0_bytes), (h_p1, .inr (5, [.int p1_size, .int p1_hasDark, .int p1_words_12, .int p1_ruleLines, .int p1_endLines, .int p1_most, .int p1_bannedCircles, .int p1_unlike, .int p1_patterns, .ref h_p1_patternNodes, .ref h_p1_patternCodes, .int p1_endsJoined, .int p1_fewestEdges, .int p1_mostEdges, .int p1_least]))]) X [1, 2, 0] rfl rfl ?_
      refine x_goto (tgt := 28) X dX9_readRule_24 (by decide) ?_
      exact x_sub X [1] rfl (k28 r21 p0_begun_21 p0_position_21 p1_bannedCircles p1_most p1_unlike p1_words_12 h)
theorem dX9_readLine_0 : decode cX9_readLine 0 = .ok (.aload_n 0, 1) := by decide +kernel
theorem dX9_readLine_1 : decode cX9_readLine 1 = .ok (.ldc 54, 2) := by decide +kernel
theorem dX9_readLine_3 : decode cX9_readLine 3 = .ok (.invokevirtual 16, 3) := by decide +kernel
theorem dX9_readLine_6 : decode cX9_readLine 6 = .ok (.ifCond .eq 19, 3) := by decide +kernel
theorem dX9_readLine_9 : decode cX9_readLine 9 = .ok (.aload_n 1, 1) := by decide +kernel
theorem dX9_readLine_10 : decode cX9_readLine 10 = .ok (.dup, 1) := by decide +kernel
theorem dX9_readLine_11 : decode cX9_readLine 11 = .ok (.getfield 56, 3) := by decide +kernel
theorem dX9_readLine_14 : decode cX9_readLine 14 = .ok (.iconst 1, 1) := by decide +kernel
theorem dX9_readLine_15 : decode cX9_readLine 15 = .ok (.iadd, 1) := by decide +kernel
theorem dX9_readLine_16 : decode cX9_readLine 16 = .ok (.putfield 56, 3) := by decide +kernel
theorem dX9_readLine_19 : decode cX9_readLine 19 = .ok (.aload_n 0, 1) := by decide +kernel
theorem dX9_readLine_20 : decode cX9_readLine 20 = .ok (.aload_n 1, 1) := by decide +kernel
theorem dX9_readLine_21 : decode cX9_readLine 21 = .ok (.invokestatic 59, 3) := by decide +kernel
theorem dX9_readLine_24 : decode cX9_readLine 24 = .ok (.ireturn, 1) := by decide +kernel
theorem dX9_readLine_25 : decode cX9_readLine 25 = .ok (.aload_n 1, 1) := by decide +kernel
theorem dX9_readLine_26 : decode cX9_readLine 26 = .ok (.dup, 1) := by decide +kernel
theorem dX9_readLine_27 : decode cX9_readLine 27 = .ok (.getfield 62, 3) := by decide +kernel
theorem dX9_readLine_30 : decode cX9_readLine 30 = .ok (.iconst 1, 1) := by decide +kernel
theorem dX9_readLine_31 : decode cX9_readLine 31 = .ok (.iadd, 1) := by decide +kernel
theorem dX9_readLine_32 : decode cX9_readLine 32 = .ok (.putfield 62, 3) := by decide +kernel
theorem dX9_readLine_35 : decode cX9_readLine 35 = .ok (.aload_n 0, 1) := by decide +kernel
theorem dX9_readLine_36 : decode cX9_readLine 36 = .ok (.ldc 65, 2) := by decide +kernel
theorem dX9_readLine_38 : decode cX9_readLine 38 = .ok (.invokevirtual 16, 3) := by decide +kernel
theorem dX9_readLine_41 : decode cX9_readLine 41 = .ok (.ifCond .eq 9, 3) := by decide +kernel
theorem dX9_readLine_44 : decode cX9_readLine 44 = .ok (.aload_n 0, 1) := by decide +kernel
theorem dX9_readLine_45 : decode cX9_readLine 45 = .ok (.aload_n 1, 1) := by decide +kernel
theorem dX9_readLine_46 : decode cX9_readLine 46 = .ok (.invokestatic 67, 3) := by decide +kernel
theorem dX9_readLine_49 : decode cX9_readLine 49 = .ok (.ireturn, 1) := by decide +kernel
theorem dX9_readLine_50 : decode cX9_readLine 50 = .ok (.aload_n 0, 1) := by decide +kernel
theorem dX9_readLine_51 : decode cX9_readLine 51 = .ok (.aload_n 1, 1) := by decide +kernel
theorem dX9_readLine_52 : decode cX9_readLine 52 = .ok (.invokestatic 70, 3) := by decide +kernel
theorem dX9_readLine_55 : decode cX9_readLine 55 = .ok (.ireturn, 1) := by decide +kernel
set_option maxHeartbeats 4000000 in
set_option maxRecDepth 100000 in
theorem c_X9_readLine (l : Launch) (D : eD) (T : Nat → ClassId) (h_p0 h_p0_bytes h_p1 h_p1_patternNodes h_p1_patternCodes : Nat) (p0_begun : Int32) (p0_length : Int32) (p0_position : Int32) (p0_wrong : Int32) (p0_bytes : Nat → Int32) (p1_bannedCircles : Int32) (p1_endLines : Int32) (p1_endsJoined : Int32) (p1_fewestEdges : Int32) (p1_hasDark : Int32) (p1_least : Int32) (p1_most : Int32) (p1_mostEdges : Int32) (p1_patterns : Int32) (p1_ruleLines : Int32) (p1_size : Int32) (p1_unlike : Int32) (p1_words : Int32) (p1_patternCodes : Nat → Int32) (p1_patternNodes : Nat → Int32) (post : Int32 → Int32 → Int32 → Int32 → Int32 → Int32 → Int32 → Int32 → Int32 → Int32 → Int32 → Int32 → Int32 → Int32 → (Nat → Int32) → (Nat → Int32) → Prop) (h : F_X9_readLine p0_length p0_bytes p1_hasDark p0_begun p0_position p1_bannedCircles p1_endLines p1_endsJoined p1_fewestEdges p1_least p1_most p1_mostEdges p1_patterns p1_ruleLines p1_unlike p1_words p1_patternCodes p1_patternNodes post) : cI l D T yX9_readLine cX9_readLine 2 (some .boolean) 8 205 0 0 [.ref h_p0, .ref h_p1] [(h_p0, .inr (7, [.ref h_p0_bytes, .int p0_length, .int p0_position, .int p0_begun, .int p0_wrong])), (h_p0_bytes, aI T 400 p0_bytes), (h_p1, .inr (5, [.int p1_size, .int p1_hasDark, .int p1_words, .int p1_ruleLines, .int p1_endLines, .int p1_most, .int p1_bannedCircles, .int p1_unlike, .int p1_patterns, .ref h_p1_patternNodes, .ref h_p1_patternCodes, .int p1_endsJoined, .int p1_fewestEdges, .int p1_mostEdges, .int p1_least])), (h_p1_patternCodes, aI T 2 p1_patternCodes), (h_p1_patternNodes, aI T 2 p1_patternNodes)] (fun r w1 => ∃ (p0_begun1 : Int32) (p0_position1 : Int32) (p1_bannedCircles1 : Int32) (p1_endLines1 : Int32) (p1_endsJoined1 : Int32) (p1_fewestEdges1 : Int32) (p1_least1 : Int32) (p1_most1 : Int32) (p1_mostEdges1 : Int32) (p1_patterns1 : Int32) (p1_ruleLines1 : Int32) (p1_unlike1 : Int32) (p1_words1 : Int32) (p1_patternCodes1 : Nat → Int32) (p1_patternNodes1 : Nat → Int32), w1 = [(h_p0, .inr (7, [.ref h_p0_bytes, .int p0_length, .int p0_position1, .int p0_begun1, .int p0_wrong])), (h_p0_bytes, aI T 400 p0_bytes), (h_p1, .inr (5, [.int p1_size, .int p1_hasDark, .int p1_words1, .int p1_ruleLines1, .int p1_endLines1, .int p1_most1, .int p1_bannedCircles1, .int p1_unlike1, .int p1_patterns1, .ref h_p1_patternNodes, .ref h_p1_patternCodes, .int p1_endsJoined1, .int p1_fewestEdges1, .int p1_mostEdges1, .int p1_least1])), (h_p1_patternCodes, aI T 2 p1_patternCodes1), (h_p1_patternNodes, aI T 2 p1_patternNodes1)] ∧ post r p0_begun1 p0_position1 p1_bannedCircles1 p1_endLines1 p1_endsJoined1 p1_fewestEdges1 p1_least1 p1_most1 p1_mostEdges1 p1_patterns1 p1_ruleLines1 p1_unlike1 p1_words1 p1_patternCodes1 p1_patternNodes1) := by
  refine xI_of (ty := .boolean) (by decide +kernel) (Nat.le_of_ble_eq_true rfl) rfl ?_
  intro G X hret
  change G 0 0 0 [(0, .ref h_p0), (1, .ref h_p1)] [] [(h_p0, .inr (7, [.ref h_p0_bytes, .int p0_length, .int p0_position, .int p0_begun, .int p0_wrong])), (h_p0_bytes, aI T 400 p0_bytes), (h_p1, .inr (5, [.int p1_size, .int p1_hasDark, .int p1_words, .int p1_ruleLines, .int p1_endLines, .int p1_most, .int p1_bannedCircles, .int p1_unlike, .int p1_patterns, .ref h_p1_patternNodes, .ref h_p1_patternCodes, .int p1_endsJoined, .int p1_fewestEdges, .int p1_mostEdges, .int p1_least])), (h_p1_patternCodes, aI T 2 p1_patternCodes), (h_p1_patternNodes, aI T 2 p1_patternNodes)]
  unfold F_X9_readLine at h
  refine x_aload_n X dX9_readLine_0 0 rfl ?_
  refine x_ldcS X 2 (by decide) rfl rfl dX9_readLine_1 ?_
  refine x_callVI (av := [.ref (D.2.1 2)]) (st := []) (wr := [(h_p1, .inr (5, [.int p1_size, .int p1_hasDark, .int p1_words, .int p1_ruleLines, .int p1_endLines, .int p1_most, .int p1_bannedCircles, .int p1_unlike, .int p1_patterns, .ref h_p1_patternNodes, .ref h_p1_patternCodes, .int p1_endsJoined, .int p1_fewestEdges, .int p1_mostEdges, .int p1_least])), (h_p1_patternCodes, aI T 2 p1_patternCodes), (h_p1_patternNodes, aI T 2 p1_patternNodes)]) X (c_X8_takesWord l D T h_p0 h_p0_bytes p0_begun p0_length p0_position p0_wrong p0_bytes 2 _ h) yk_X8_takesWord tw_623 dX9_readLine_3 0 rfl rfl [0, 1] [2, 3, 4] rfl rfl rfl rfl (by decide) rfl rfl (Nat.le_of_ble_eq_true rfl) (Nat.le_of_ble_eq_true rfl) (Nat.le_of_ble_eq_true rfl) (Nat.zero_le _) (Nat.zero_le _) (fun r3 w1 hw => ?_)
  obtain ⟨p0_begun_3, p0_position_3, rfl, h⟩ := hw
  refine x_perm (ws2 := [(h_p0, .inr (7, [.ref h_p0_bytes, .int p0_length, .int p0_position_3, .int p0_begun_3, .int p0_wrong])), (h_p0_bytes, aI T 400 p0_bytes), (h_p1, .inr (5, [.int p1_size, .int p1_hasDark, .int p1_words, .int p1_ruleLines, .int p1_endLines, .int p1_most, .int p1_bannedCircles, .int p1_unlike, .int p1_patterns, .ref h_p1_patternNodes, .ref h_p1_patternCodes, .int p1_endsJoined, .int p1_fewestEdges, .int p1_mostEdges, .int p1_least])), (h_p1_patternCodes, aI T 2 p1_patternCodes), (h_p1_patternNodes, aI T 2 p1_patternNodes)]) X [3, 4, 0, 1, 2] rfl rfl ?_
  refine x_if_eq (tgt := 25) X dX9_readLine_6 (by decide) (fun hc => ?_) (fun hc => ?_)
  · have h := h.1 hc
    refine x_aload_n X dX9_readLine_25 1 rfl ?_
    refine x_dup X dX9_readLine_26 rfl ?_
    refine x_getN X inGX6 3 (by decide) rfl tw_82 dX9_readLine_27 rfl 2 rfl rfl ?_
    refine x_iconst (v := 1) X dX9_readLine_30 (by decide) ?_
    refine x_iadd X dX9_readLine_31 ?_
    refine x_putN (ws' := [(h_p0, .inr (7, [.ref h_p0_bytes, .int p0_length, .int p0_position_3, .int p0_begun_3, .int p0_wrong])), (h_p0_bytes, aI T 400 p0_bytes), (h_p1, .inr (5, [.int p1_size, .int p1_hasDark, .int p1_words, .int (p1_ruleLines + (1 : Int32)), .int p1_endLines, .int p1_most, .int p1_bannedCircles, .int p1_unlike, .int p1_patterns, .ref h_p1_patternNodes, .ref h_p1_patternCodes, .int p1_endsJoined, .int p1_fewestEdges, .int p1_mostEdges, .int p1_least])), (h_p1_patternCodes, aI T 2 p1_patternCodes), (h_p1_patternNodes, aI T 2 p1_patternNodes)]) X inGX6 tyX6_ok nmX6 3 (by decide) rfl tw_82 dX9_readLine_32 rfl rfl 2 rfl rfl rfl (Nat.le_of_ble_eq_true rfl) rfl ?_
    refine x_aload_n X dX9_readLine_35 0 rfl ?_
    refine x_ldcS X 7 (by decide) rfl rfl dX9_readLine_36 ?_
    refine x_callVI (av := [.ref (D.2.1 7)]) (st := []) (wr := [(h_p1, .inr (5, [.int p1_size, .int p1_hasDark, .int p1_words, .int (p1_ruleLines + (1 : Int32)), .int p1_endLines, .int p1_most, .int p1_bannedCircles, .int p1_unlike, .int p1_patterns, .ref h_p1_patternNodes, .ref h_p1_patternCodes, .int p1_endsJoined, .int p1_fewestEdges, .int p1_mostEdges, .int p1_least])), (h_p1_patternCodes, aI T 2 p1_patternCodes), (h_p1_patternNodes, aI T 2 p1_patternNodes)]) X (c_X8_takesWord l D T h_p0 h_p0_bytes p0_begun_3 p0_length p0_position_3 p0_wrong p0_bytes 7 _ h) yk_X8_takesWord tw_623 dX9_readLine_38 0 rfl rfl [0, 1] [2, 3, 4] rfl rfl rfl rfl (by decide) rfl rfl (Nat.le_of_ble_eq_true rfl) (Nat.le_of_ble_eq_true rfl) (Nat.le_of_ble_eq_true rfl) (Nat.zero_le _) (Nat.zero_le _) (fun r38 w1 hw => ?_)
    obtain ⟨p0_begun_38, p0_position_38, rfl, h⟩ := hw
    refine x_perm (ws2 := [(h_p0, .inr (7, [.ref h_p0_bytes, .int p0_length, .int p0_position_38, .int p0_begun_38, .int p0_wrong])), (h_p0_bytes, aI T 400 p0_bytes), (h_p1, .inr (5, [.int p1_size, .int p1_hasDark, .int p1_words, .int (p1_ruleLines + (1 : Int32)), .int p1_endLines, .int p1_most, .int p1_bannedCircles, .int p1_unlike, .int p1_patterns, .ref h_p1_patternNodes, .ref h_p1_patternCodes, .int p1_endsJoined, .int p1_fewestEdges, .int p1_mostEdges, .int p1_least])), (h_p1_patternCodes, aI T 2 p1_patternCodes), (h_p1_patternNodes, aI T 2 p1_patternNodes)]) X [3, 4, 0, 1, 2] rfl rfl ?_
    refine x_if_eq (tgt := 50) X dX9_readLine_41 (by decide) (fun hc => ?_) (fun hc => ?_)
    · have h := h.1 hc
      refine x_aload_n X dX9_readLine_50 0 rfl ?_
      refine x_aload_n X dX9_readLine_51 1 rfl ?_
      refine x_callSI (av := [.ref h_p0, .ref h_p1]) (st := []) (wr := [(h_p1_patternCodes, aI T 2 p1_patternCodes), (h_p1_patternNodes, aI T 2 p1_patternNodes)]) X (c_X9_readRule l D T h_p0 h_p0_bytes h_p1 h_p1_patternNodes h_p1_patternCodes p0_begun_38 p0_length p0_position_38 p0_wrong p0_bytes p1_bannedCircles p1_endLines p1_endsJoined p1_fewestEdges p1_hasDark p1_least p1_most p1_mostEdges p1_patterns (p1_ruleLines + (1 : Int32)) p1_size p1_unlike p1_words _ h) yk_X9_readRule tw_741 dX9_readLine_52 [0, 1, 2] [3, 4] rfl rfl rfl rfl (by decide) rfl rfl (Nat.le_of_ble_eq_true rfl) (Nat.le_of_ble_eq_true rfl) (Nat.le_of_ble_eq_true rfl) (Nat.zero_le _) (Nat.zero_le _) (fun r52 w1 hw => ?_)
      obtain ⟨p0_begun_52, p0_position_52, p1_bannedCircles_52, p1_most_52, p1_unlike_52, p1_words_52, rfl, h⟩ := hw
      refine x_perm (ws2 := [(h_p0, .inr (7, [.ref h_p0_bytes, .int p0_length, .int p0_position_52, .int p0_begun_52, .int p0_wrong])), (h_p0_bytes, aI T 400 p0_bytes), (h_p1, .inr (5, [.int p1_size, .int p1_hasDark, .int p1_words_52, .int (p1_ruleLines + (1 : Int32)), .int p1_endLines, .int p1_most_52, .int p1_bannedCircles_52, .int p1_unlike_52, .int p1_patterns, .ref h_p1_patternNodes, .ref h_p1_patternCodes, .int p1_endsJoined, .int p1_fewestEdges, .int p1_mostEdges, .int p1_least])), (h_p1_patternCodes, aI T 2 p1_patternCodes), (h_p1_patternNodes, aI T 2 p1_patternNodes)]) X [2, 3, 4, 0, 1] rfl rfl ?_
      obtain ⟨hz, h⟩ := h
      exact hret _ _ _ _ dX9_readLine_55 (e_nz hz) ⟨p0_begun_52, p0_position_52, p1_bannedCircles_52, p1_endLines, p1_endsJoined, p1_fewestEdges, p1_least, p1_most_52, p1_mostEdges, p1_patterns, (p1_ruleLines + (1 : Int32)), p1_unlike_52, p1_words_52, p1_patternCodes, p1_patternNodes, rfl, h⟩
    · have h := h.2 hc
      refine x_aload_n X dX9_readLine_44 0 rfl ?_
      refine x_aload_n X dX9_readLine_45 1 rfl ?_
      refine x_callSI (av := [.ref h_p0, .ref h_p1]) (st := []) (wr := []) X (c_X9_readPattern l D T h_p0 h_p0_bytes h_p1 h_p1_patternNodes h_p1_patternCodes p0_begun_38 p0_length p0_position_38 p0_wrong p0_bytes p1_bannedCircles p1_endLines p1_endsJoined p1_fewestEdges p1_hasDark p1_least p1_most p1_mostEdges p1_patterns (p1_ruleLines + (1 : Int32)) p1_size p1_unlike p1_words p1_patternCodes p1_patternNodes _ h) yk_X9_readPattern tw_723 dX9_readLine_46 [0, 1, 2, 3, 4] [] rfl rfl rfl rfl (by decide) rfl rfl (Nat.le_of_ble_eq_true rfl) (Nat.le_of_ble_eq_true rfl) (Nat.le_of_ble_eq_true rfl) (Nat.zero_le _) (Nat.zero_le _) (fun r46 w1 hw => ?_)
      obtain ⟨p0_begun_46, p0_position_46, p1_patterns_46, p1_patternCodes_46, p1_patternNodes_46, rfl, h⟩ := hw
      refine x_perm (ws2 := [(h_p0, .inr (7, [.ref h_p0_bytes, .int p0_length, .int p0_position_46, .int p0_begun_46, .int p0_wrong])), (h_p0_bytes, aI T 400 p0_bytes), (h_p1, .inr (5, [.int p1_size, .int p1_hasDark, .int p1_words, .int (p1_ruleLines + (1 : Int32)), .int p1_endLines, .int p1_most, .int p1_bannedCircles, .int p1_unlike, .int p1_patterns_46, .ref h_p1_patternNodes, .ref h_p1_patternCodes, .int p1_endsJoined, .int p1_fewestEdges, .int p1_mostEdges, .int p1_least])), (h_p1_patternCodes, aI T 2 p1_patternCodes_46), (h_p1_patternNodes, aI T 2 p1_patternNodes_46)]) X [0, 1, 2, 3, 4] rfl rfl ?_
      obtain ⟨hz, h⟩ := h
      exact hret _ _ _ _ dX9_readLine_49 (e_nz hz) ⟨p0_begun_46, p0_position_46, p1_bannedCircles, p1_endLines, p1_endsJoined, p1_fewestEdges, p1_least, p1_most, p1_mostEdges, p1_patterns_46, (p1_ruleLines + (1 : Int32)), p1_unlike, p1_words, p1_patternCodes_46, p1_patternNodes_46, rfl, h⟩
  · have h := h.2 hc
    refine x_aload_n X dX9_readLine_9 1 rfl ?_
    refine x_dup X dX9_readLine_10 rfl ?_
    refine x_getN X inGX6 4 (by decide) rfl tw_85 dX9_readLine_11 rfl 2 rfl rfl ?_
    refine x_iconst (v := 1) X dX9_readLine_14 (by decide) ?_
    refine x_iadd X dX9_readLine_15 ?_
    refine x_putN (ws' := [(h_p0, .inr (7, [.ref h_p0_bytes, .int p0_length, .int p0_position_3, .int p0_begun_3, .int p0_wrong])), (h_p0_bytes, aI T 400 p0_bytes), (h_p1, .inr (5, [.int p1_size, .int p1_hasDark, .int p1_words, .int p1_ruleLines, .int (p1_endLines + (1 : Int32)), .int p1_most, .int p1_bannedCircles, .int p1_unlike, .int p1_patterns, .ref h_p1_patternNodes, .ref h_p1_patternCodes, .int p1_endsJoined, .int p1_fewestEdges, .int p1_mostEdges, .int p1_least])), (h_p1_patternCodes, aI T 2 p1_patternCodes), (h_p1_patternNodes, aI T 2 p1_patternNodes)]) X inGX6 tyX6_ok nmX6 4 (by decide) rfl tw_85 dX9_readLine_16 rfl rfl 2 rfl rfl rfl (Nat.le_of_ble_eq_true rfl) rfl ?_
    refine x_aload_n X dX9_readLine_19 0 rfl ?_
    refine x_aload_n X dX9_readLine_20 1 rfl ?_
    refine x_callSI (av := [.ref h_p0, .ref h_p1]) (st := []) (wr := [(h_p1_patternCodes, aI T 2 p1_patternCodes), (h_p1_patternNodes, aI T 2 p1_patternNodes)]) X (c_X9_readEnd l D T h_p0 h_p0_bytes h_p1 h_p1_patternNodes h_p1_patternCodes p0_begun_3 p0_length p0_position_3 p0_wrong p0_bytes p1_bannedCircles (p1_endLines + (1 : Int32)) p1_endsJoined p1_fewestEdges p1_hasDark p1_least p1_most p1_mostEdges p1_patterns p1_ruleLines p1_size p1_unlike p1_words _ h) yk_X9_readEnd tw_708 dX9_readLine_21 [0, 1, 2] [3, 4] rfl rfl rfl rfl (by decide) rfl rfl (Nat.le_of_ble_eq_true rfl) (Nat.le_of_ble_eq_true rfl) (Nat.le_of_ble_eq_true rfl) (Nat.zero_le _) (Nat.zero_le _) (fun r21 w1 hw => ?_)
    obtain ⟨p0_begun_21, p0_position_21, p1_endsJoined_21, p1_fewestEdges_21, p1_least_21, p1_mostEdges_21, p1_words_21, rfl, h⟩ := hw
    refine x_perm (ws2 := [(h_p0, .inr (7, [.ref h_p0_bytes, .int p0_length, .int p0_position_21, .int p0_begun_21, .int p0_wrong])), (h_p0_bytes, aI T 400 p0_bytes), (h_p1, .inr (5, [.int p1_size, .int p1_hasDark, .int p1_words_21, .int p1_ruleLines, .int (p1_endLines + (1 : Int32)), .int p1_most, .int p1_bannedCircles, .int p1_unlike, .int p1_patterns, .ref h_p1_patternNodes, .ref h_p1_patternCodes, .int p1_endsJoined_21, .int p1_fewestEdges_21, .int p1_mostEdges_21, .int p1_least_21])), (h_p1_patternCodes, aI T 2 p1_patternCodes), (h_p1_patternNodes, aI T 2 p1_patternNodes)]) X [2, 3, 4, 0, 1] rfl rfl ?_
    obtain ⟨hz, h⟩ := h
    exact hret _ _ _ _ dX9_readLine_24 (e_nz hz) ⟨p0_begun_21, p0_position_21, p1_bannedCircles, (p1_endLines + (1 : Int32)), p1_endsJoined_21, p1_fewestEdges_21, p1_least_21, p1_most, p1_mostEdges_21, p1_patterns, p1_ruleLines, p1_unlike, p1_words_21, p1_patternCodes, p1_patternNodes, rfl, h⟩
theorem dX9_readKind_0 : decode cX9_readKind 0 = .ok (.aload_n 2, 1) := by decide +kernel
theorem dX9_readKind_1 : decode cX9_readKind 1 = .ok (.invokevirtual 9, 3) := by decide +kernel
theorem dX9_readKind_4 : decode cX9_readKind 4 = .ok (.aload_n 1, 1) := by decide +kernel
theorem dX9_readKind_5 : decode cX9_readKind 5 = .ok (.ldc 14, 2) := by decide +kernel
theorem dX9_readKind_7 : decode cX9_readKind 7 = .ok (.invokevirtual 16, 3) := by decide +kernel
theorem dX9_readKind_10 : decode cX9_readKind 10 = .ok (.ifCond .ne 5, 3) := by decide +kernel
theorem dX9_readKind_13 : decode cX9_readKind 13 = .ok (.iconst 0, 1) := by decide +kernel
theorem dX9_readKind_14 : decode cX9_readKind 14 = .ok (.ireturn, 1) := by decide +kernel
theorem dX9_readKind_15 : decode cX9_readKind 15 = .ok (.aload_n 2, 1) := by decide +kernel
theorem dX9_readKind_16 : decode cX9_readKind 16 = .ok (.aload_n 1, 1) := by decide +kernel
theorem dX9_readKind_17 : decode cX9_readKind 17 = .ok (.iconst 1, 1) := by decide +kernel
theorem dX9_readKind_18 : decode cX9_readKind 18 = .ok (.bipush 6, 2) := by decide +kernel
theorem dX9_readKind_20 : decode cX9_readKind 20 = .ok (.invokevirtual 22, 3) := by decide +kernel
theorem dX9_readKind_23 : decode cX9_readKind 23 = .ok (.putfield 26, 3) := by decide +kernel
theorem dX9_readKind_26 : decode cX9_readKind 26 = .ok (.aload_n 2, 1) := by decide +kernel
theorem dX9_readKind_27 : decode cX9_readKind 27 = .ok (.getfield 26, 3) := by decide +kernel
theorem dX9_readKind_30 : decode cX9_readKind 30 = .ok (.iconst (-1), 1) := by decide +kernel
theorem dX9_readKind_31 : decode cX9_readKind 31 = .ok (.if_icmp .ne 5, 3) := by decide +kernel
theorem dX9_readKind_34 : decode cX9_readKind 34 = .ok (.iconst 0, 1) := by decide +kernel
theorem dX9_readKind_35 : decode cX9_readKind 35 = .ok (.ireturn, 1) := by decide +kernel
theorem dX9_readKind_36 : decode cX9_readKind 36 = .ok (.aload_n 1, 1) := by decide +kernel
theorem dX9_readKind_37 : decode cX9_readKind 37 = .ok (.ldc 30, 2) := by decide +kernel
theorem dX9_readKind_39 : decode cX9_readKind 39 = .ok (.invokevirtual 16, 3) := by decide +kernel
theorem dX9_readKind_42 : decode cX9_readKind 42 = .ok (.ifCond .eq 18, 3) := by decide +kernel
theorem dX9_readKind_45 : decode cX9_readKind 45 = .ok (.aload_n 2, 1) := by decide +kernel
theorem dX9_readKind_46 : decode cX9_readKind 46 = .ok (.getfield 26, 3) := by decide +kernel
theorem dX9_readKind_49 : decode cX9_readKind 49 = .ok (.iconst 5, 1) := by decide +kernel
theorem dX9_readKind_50 : decode cX9_readKind 50 = .ok (.if_icmp .le 5, 3) := by decide +kernel
theorem dX9_readKind_53 : decode cX9_readKind 53 = .ok (.iconst 0, 1) := by decide +kernel
theorem dX9_readKind_54 : decode cX9_readKind 54 = .ok (.ireturn, 1) := by decide +kernel
theorem dX9_readKind_55 : decode cX9_readKind 55 = .ok (.aload_n 2, 1) := by decide +kernel
theorem dX9_readKind_56 : decode cX9_readKind 56 = .ok (.iconst 1, 1) := by decide +kernel
theorem dX9_readKind_57 : decode cX9_readKind 57 = .ok (.putfield 32, 3) := by decide +kernel
theorem dX9_readKind_60 : decode cX9_readKind 60 = .ok (.iconst 0, 1) := by decide +kernel
theorem dX9_readKind_61 : decode cX9_readKind 61 = .ok (.istore_n 3, 1) := by decide +kernel
theorem dX9_readKind_62 : decode cX9_readKind 62 = .ok (.iload_n 3, 1) := by decide +kernel
theorem dX9_readKind_63 : decode cX9_readKind 63 = .ok (.bipush 14, 2) := by decide +kernel
theorem dX9_readKind_65 : decode cX9_readKind 65 = .ok (.if_icmp .ge 35, 3) := by decide +kernel
theorem dX9_readKind_68 : decode cX9_readKind 68 = .ok (.aload_n 1, 1) := by decide +kernel
theorem dX9_readKind_69 : decode cX9_readKind 69 = .ok (.invokevirtual 38, 3) := by decide +kernel
theorem dX9_readKind_72 : decode cX9_readKind 72 = .ok (.ifCond .eq 28, 3) := by decide +kernel
theorem dX9_readKind_75 : decode cX9_readKind 75 = .ok (.aload_n 1, 1) := by decide +kernel
theorem dX9_readKind_76 : decode cX9_readKind 76 = .ok (.bipush 59, 2) := by decide +kernel
theorem dX9_readKind_78 : decode cX9_readKind 78 = .ok (.invokevirtual 42, 3) := by decide +kernel
theorem dX9_readKind_81 : decode cX9_readKind 81 = .ok (.ifCond .eq 11, 3) := by decide +kernel
theorem dX9_readKind_84 : decode cX9_readKind 84 = .ok (.aload_n 1, 1) := by decide +kernel
theorem dX9_readKind_85 : decode cX9_readKind 85 = .ok (.aload_n 2, 1) := by decide +kernel
theorem dX9_readKind_86 : decode cX9_readKind 86 = .ok (.invokestatic 46, 3) := by decide +kernel
theorem dX9_readKind_89 : decode cX9_readKind 89 = .ok (.ifCond .ne 5, 3) := by decide +kernel
theorem dX9_readKind_92 : decode cX9_readKind 92 = .ok (.iconst 0, 1) := by decide +kernel
theorem dX9_readKind_93 : decode cX9_readKind 93 = .ok (.ireturn, 1) := by decide +kernel
theorem dX9_readKind_94 : decode cX9_readKind 94 = .ok (.iinc 3 1, 3) := by decide +kernel
theorem dX9_readKind_97 : decode cX9_readKind 97 = .ok (.goto (-35), 3) := by decide +kernel
theorem dX9_readKind_100 : decode cX9_readKind 100 = .ok (.aload_n 1, 1) := by decide +kernel
theorem dX9_readKind_101 : decode cX9_readKind 101 = .ok (.invokestatic 50, 3) := by decide +kernel
theorem dX9_readKind_104 : decode cX9_readKind 104 = .ok (.ireturn, 1) := by decide +kernel
set_option maxHeartbeats 4000000 in
set_option maxRecDepth 100000 in
theorem c_X9_readKind (l : Launch) (D : eD) (T : Nat → ClassId) (h_p1 h_p1_bytes h_p2 h_p2_patternNodes h_p2_patternCodes h_t : Nat) (p1_begun : Int32) (p1_length : Int32) (p1_position : Int32) (p1_wrong : Int32) (p1_bytes : Nat → Int32) (p2_bannedCircles : Int32) (p2_endLines : Int32) (p2_endsJoined : Int32) (p2_fewestEdges : Int32) (p2_hasDark : Int32) (p2_least : Int32) (p2_most : Int32) (p2_mostEdges : Int32) (p2_patterns : Int32) (p2_ruleLines : Int32) (p2_size : Int32) (p2_unlike : Int32) (p2_words : Int32) (p2_patternCodes : Nat → Int32) (p2_patternNodes : Nat → Int32) (post : Int32 → Int32 → Int32 → Int32 → Int32 → Int32 → Int32 → Int32 → Int32 → Int32 → Int32 → Int32 → Int32 → Int32 → Int32 → Int32 → (Nat → Int32) → (Nat → Int32) → Prop) (h : F_X9_readKind p1_length p1_bytes p1_begun p1_position p2_bannedCircles p2_endLines p2_endsJoined p2_fewestEdges p2_hasDark p2_least p2_most p2_mostEdges p2_patterns p2_ruleLines p2_size p2_unlike p2_words p2_patternCodes p2_patternNodes post) : cI l D T yX9_readKind cX9_readKind 4 (some .boolean) 9 226 0 0 [.ref h_t, .ref h_p1, .ref h_p2] [(h_p1, .inr (7, [.ref h_p1_bytes, .int p1_length, .int p1_position, .int p1_begun, .int p1_wrong])), (h_p1_bytes, aI T 400 p1_bytes), (h_p2, .inr (5, [.int p2_size, .int p2_hasDark, .int p2_words, .int p2_ruleLines, .int p2_endLines, .int p2_most, .int p2_bannedCircles, .int p2_unlike, .int p2_patterns, .ref h_p2_patternNodes, .ref h_p2_patternCodes, .int p2_endsJoined, .int p2_fewestEdges, .int p2_mostEdges, .int p2_least])), (h_p2_patternCodes, aI T 2 p2_patternCodes), (h_p2_patternNodes, aI T 2 p2_patternNodes)] (fun r w1 => ∃ (p1_begun1 : Int32) (p1_position1 : Int32) (p2_bannedCircles1 : Int32) (p2_endLines1 : Int32) (p2_endsJoined1 : Int32) (p2_fewestEdges1 : Int32) (p2_hasDark1 : Int32) (p2_least1 : Int32) (p2_most1 : Int32) (p2_mostEdges1 : Int32) (p2_patterns1 : Int32) (p2_ruleLines1 : Int32) (p2_size1 : Int32) (p2_unlike1 : Int32) (p2_words1 : Int32) (p2_patternCodes1 : Nat → Int32) (p2_patternNodes1 : Nat → Int32), w1 = [(h_p1, .inr (7, [.ref h_p1_bytes, .int p1_length, .int p1_position1, .int p1_begun1, .int p1_wrong])), (h_p1_bytes, aI T 400 p1_bytes), (h_p2, .inr (5, [.int p2_size1, .int p2_hasDark1, .int p2_words1, .int p2_ruleLines1, .int p2_endLines1, .int p2_most1, .int p2_bannedCircles1, .int p2_unlike1, .int p2_patterns1, .ref h_p2_patternNodes, .ref h_p2_patternCodes, .int p2_endsJoined1, .int p2_fewestEdges1, .int p2_mostEdges1, .int p2_least1])), (h_p2_patternCodes, aI T 2 p2_patternCodes1), (h_p2_patternNodes, aI T 2 p2_patternNodes1)] ∧ post r p1_begun1 p1_position1 p2_bannedCircles1 p2_endLines1 p2_endsJoined1 p2_fewestEdges1 p2_hasDark1 p2_least1 p2_most1 p2_mostEdges1 p2_patterns1 p2_ruleLines1 p2_size1 p2_unlike1 p2_words1 p2_patternCodes1 p2_patternNodes1) := by
  refine xI_of (ty := .boolean) (by decide +kernel) (Nat.le_of_ble_eq_true rfl) rfl ?_
  intro G X hret
  change G 0 0 0 [(0, .ref h_t), (1, .ref h_p1), (2, .ref h_p2)] [] [(h_p1, .inr (7, [.ref h_p1_bytes, .int p1_length, .int p1_position, .int p1_begun, .int p1_wrong])), (h_p1_bytes, aI T 400 p1_bytes), (h_p2, .inr (5, [.int p2_size, .int p2_hasDark, .int p2_words, .int p2_ruleLines, .int p2_endLines, .int p2_most, .int p2_bannedCircles, .int p2_unlike, .int p2_patterns, .ref h_p2_patternNodes, .ref h_p2_patternCodes, .int p2_endsJoined, .int p2_fewestEdges, .int p2_mostEdges, .int p2_least])), (h_p2_patternCodes, aI T 2 p2_patternCodes), (h_p2_patternNodes, aI T 2 p2_patternNodes)]
  unfold F_X9_readKind at h
  have k60 : ∀ (p1_begun : Int32) (p1_position : Int32) (p2_bannedCircles : Int32) (p2_endLines : Int32) (p2_endsJoined : Int32) (p2_fewestEdges : Int32) (p2_hasDark : Int32) (p2_least : Int32) (p2_most : Int32) (p2_mostEdges : Int32) (p2_patterns : Int32) (p2_ruleLines : Int32) (p2_size : Int32) (p2_unlike : Int32) (p2_words : Int32) (p2_patternCodes : Nat → Int32) (p2_patternNodes : Nat → Int32), F_X9_readKind_60 p1_length p1_bytes post p1_begun p1_position p2_bannedCircles p2_endLines p2_endsJoined p2_fewestEdges p2_hasDark p2_least p2_most p2_mostEdges p2_patterns p2_ruleLines p2_size p2_unlike p2_words p2_patternCodes p2_patternNodes → G 0 0 60 [(1, .ref h_p1), (2, .ref h_p2)] [] [(h_p1, .inr (7, [.ref h_p1_bytes, .int p1_length, .int p1_position, .int p1_begun, .int p1_wrong])), (h_p1_bytes, aI T 400 p1_bytes), (h_p2, .inr (5, [.int p2_size, .int p2_hasDark, .int p2_words, .int p2_ruleLines, .int p2_endLines, .int p2_most, .int p2_bannedCircles, .int p2_unlike, .int p2_patterns, .ref h_p2_patternNodes, .ref h_p2_patternCodes, .int p2_endsJoined, .int p2_fewestEdges, .int p2_mostEdges, .int p2_least])), (h_p2_patternCodes, aI T 2 p2_patternCodes), (h_p2_patternNodes, aI T 2 p2_patternNodes)] := by
    intro p1_begun p1_position p2_bannedCircles p2_endLines p2_endsJoined p2_fewestEdges p2_hasDark p2_least p2_most p2_mostEdges p2_patterns p2_ruleLines p2_size p2_unlike p2_words p2_patternCodes p2_patternNodes h
    unfold F_X9_readKind_60 at h
    have k62 : ∀ (n62 : Nat) (x3 : Int32) (p1_begun : Int32) (p1_position : Int32) (p2_bannedCircles : Int32) (p2_endLines : Int32) (p2_endsJoined : Int32) (p2_fewestEdges : Int32) (p2_hasDark : Int32) (p2_least : Int32) (p2_most : Int32) (p2_mostEdges : Int32) (p2_patterns : Int32) (p2_ruleLines : Int32) (p2_size : Int32) (p2_unlike : Int32) (p2_words : Int32) (p2_patternCodes : Nat → Int32) (p2_patternNodes : Nat → Int32), F_X9_readKind_62 p1_length p1_bytes post n62 x3 p1_begun p1_position p2_bannedCircles p2_endLines p2_endsJoined p2_fewestEdges p2_hasDark p2_least p2_most p2_mostEdges p2_patterns p2_ruleLines p2_size p2_unlike p2_words p2_patternCodes p2_patternNodes → G 0 0 62 [(1, .ref h_p1), (2, .ref h_p2), (3, .int x3)] [] [(h_p1, .inr (7, [.ref h_p1_bytes, .int p1_length, .int p1_position, .int p1_begun, .int p1_wrong])), (h_p1_bytes, aI T 400 p1_bytes), (h_p2, .inr (5, [.int p2_size, .int p2_hasDark, .int p2_words, .int p2_ruleLines, .int p2_endLines, .int p2_most, .int p2_bannedCircles, .int p2_unlike, .int p2_patterns, .ref h_p2_patternNodes, .ref h_p2_patternCodes, .int p2_endsJoined, .int p2_fewestEdges, .int p2_mostEdges, .int p2_least])), (h_p2_patternCodes, aI T 2 p2_patternCodes), (h_p2_patternNodes, aI T 2 p2_patternNodes)] := by
      intro n62
      induction n62 with
      | zero => intro x3 p1_begun p1_position p2_bannedCircles p2_endLines p2_endsJoined p2_fewestEdges p2_hasDark p2_least p2_most p2_mostEdges p2_patterns p2_ruleLines p2_size p2_unlike p2_words p2_patternCodes p2_patternNodes h; exact h.elim
      | succ n62 ih62 =>
        intro x3 p1_begun p1_position p2_bannedCircles p2_endLines p2_endsJoined p2_fewestEdges p2_hasDark p2_least p2_most p2_mostEdges p2_patterns p2_ruleLines p2_size p2_unlike p2_words p2_patternCodes p2_patternNodes h
        rw [F_X9_readKind_62] at h
        have k92 : ∀ (p1_begun : Int32) (p1_position : Int32) (p2_bannedCircles : Int32) (p2_endLines : Int32) (p2_endsJoined : Int32) (p2_fewestEdges : Int32) (p2_hasDark : Int32) (p2_least : Int32) (p2_most : Int32) (p2_mostEdges : Int32) (p2_patterns : Int32) (p2_ruleLines : Int32) (p2_size : Int32) (p2_unlike : Int32) (p2_words : Int32) (p2_patternCodes : Nat → Int32) (p2_patternNodes : Nat → Int32), F_X9_readKind_92 p1_length p1_bytes post p1_begun p1_position p2_bannedCircles p2_endLines p2_endsJoined p2_fewestEdges p2_hasDark p2_least p2_most p2_mostEdges p2_patterns p2_ruleLines p2_size p2_unlike p2_words p2_patternCodes p2_patternNodes → G 0 0 92 [] [] [(h_p1, .inr (7, [.ref h_p1_bytes, .int p1_length, .int p1_position, .int p1_begun, .int p1_wrong])), (h_p1_bytes, aI T 400 p1_bytes), (h_p2, .inr (5, [.int p2_size, .int p2_hasDark, .int p2_words, .int p2_ruleLines, .int p2_endLines, .int p2_most, .int p2_bannedCircles, .int p2_unlike, .int p2_patterns, .ref h_p2_patternNodes, .ref h_p2_patternCodes, .int p2_endsJoined, .int p2_fewestEdges, .int p2_mostEdges, .int p2_least])), (h_p2_patternCodes, aI T 2 p2_patternCodes), (h_p2_patternNodes, aI T 2 p2_patternNodes)] := by
          intro p1_begun p1_position p2_bannedCircles p2_endLines p2_endsJoined p2_fewestEdges p2_hasDark p2_least p2_most p2_mostEdges p2_patterns p2_ruleLines p2_size p2_unlike p2_words p2_patternCodes p2_patternNodes h
          unfold F_X9_readKind_92 at h
          refine x_iconst (v := 0) X dX9_readKind_92 (by decide) ?_
          obtain ⟨hz, h⟩ := h
          exact hret _ _ _ _ dX9_readKind_93 (e_nz hz) ⟨p1_begun, p1_position, p2_bannedCircles, p2_endLines, p2_endsJoined, p2_fewestEdges, p2_hasDark, p2_least, p2_most, p2_mostEdges, p2_patterns, p2_ruleLines, p2_size, p2_unlike, p2_words, p2_patternCodes, p2_patternNodes, rfl, h⟩
        have k100 : ∀ (p1_begun : Int32) (p1_position : Int32) (p2_bannedCircles : Int32) (p2_endLines : Int32) (p2_endsJoined : Int32) (p2_fewestEdges : Int32) (p2_hasDark : Int32) (p2_least : Int32) (p2_most : Int32) (p2_mostEdges : Int32) (p2_patterns : Int32) (p2_ruleLines : Int32) (p2_size : Int32) (p2_unlike : Int32) (p2_words : Int32) (p2_patternCodes : Nat → Int32) (p2_patternNodes : Nat → Int32), F_X9_readKind_100 p1_length p1_bytes post p1_begun p1_position p2_bannedCircles p2_endLines p2_endsJoined p2_fewestEdges p2_hasDark p2_least p2_most p2_mostEdges p2_patterns p2_ruleLines p2_size p2_unlike p2_words p2_patternCodes p2_patternNodes → G 0 0 100 [(1, .ref h_p1)] [] [(h_p1, .inr (7, [.ref h_p1_bytes, .int p1_length, .int p1_position, .int p1_begun, .int p1_wrong])), (h_p1_bytes, aI T 400 p1_bytes), (h_p2, .inr (5, [.int p2_size, .int p2_hasDark, .int p2_words, .int p2_ruleLines, .int p2_endLines, .int p2_most, .int p2_bannedCircles, .int p2_unlike, .int p2_patterns, .ref h_p2_patternNodes, .ref h_p2_patternCodes, .int p2_endsJoined, .int p2_fewestEdges, .int p2_mostEdges, .int p2_least])), (h_p2_patternCodes, aI T 2 p2_patternCodes), (h_p2_patternNodes, aI T 2 p2_patternNodes)] := by
          intro p1_begun p1_position p2_bannedCircles p2_endLines p2_endsJoined p2_fewestEdges p2_hasDark p2_least p2_most p2_mostEdges p2_patterns p2_ruleLines p2_size p2_unlike p2_words p2_patternCodes p2_patternNodes h
          unfold F_X9_readKind_100 at h
          refine x_aload_n X dX9_readKind_100 0 rfl ?_
          refine x_callSI (av := [.ref h_p1]) (st := []) (wr := [(h_p2, .inr (5, [.int p2_size, .int p2_hasDark, .int p2_words, .int p2_ruleLines, .int p2_endLines, .int p2_most, .int p2_bannedCircles, .int p2_unlike, .int p2_patterns, .ref h_p2_patternNodes, .ref h_p2_patternCodes, .int p2_endsJoined, .int p2_fewestEdges, .int p2_mostEdges, .int p2_least])), (h_p2_patternCodes, aI T 2 p2_patternCodes), (h_p2_patternNodes, aI T 2 p2_patternNodes)]) X (c_X9_hasEnded l D T h_p1 h_p1_bytes p1_begun p1_length p1_position p1_wrong p1_bytes _ h) yk_X9_hasEnded tw_749 dX9_readKind_101 [0, 1] [2, 3, 4] rfl rfl rfl rfl (by decide) rfl rfl (Nat.le_of_ble_eq_true rfl) (Nat.le_of_ble_eq_true rfl) (Nat.le_of_ble_eq_true rfl) (Nat.zero_le _) (Nat.zero_le _) (fun r101 w1 hw => ?_)
          obtain ⟨p1_begun_101, p1_position_101, rfl, h⟩ := hw
          refine x_perm (ws2 := [(h_p1, .inr (7, [.ref h_p1_bytes, .int p1_length, .int p1_position_101, .int p1_begun_101, .int p1_wrong])), (h_p1_bytes, aI T 400 p1_bytes), (h_p2, .inr (5, [.int p2_size, .int p2_hasDark, .int p2_words, .int p2_ruleLines, .int p2_endLines, .int p2_most, .int p2_bannedCircles, .int p2_unlike, .int p2_patterns, .ref h_p2_patternNodes, .ref h_p2_patternCodes, .int p2_endsJoined, .int p2_fewestEdges, .int p2_mostEdges, .int p2_least])), (h_p2_patternCodes, aI T 2 p2_patternCodes), (h_p2_patternNodes, aI T 2 p2_patternNodes)]) X [3, 4, 0, 1, 2] rfl rfl ?_
          obtain ⟨hz, h⟩ := h
          exact hret _ _ _ _ dX9_readKind_104 (e_nz hz) ⟨p1_begun_101, p1_position_101, p2_bannedCircles, p2_endLines, p2_endsJoined, p2_fewestEdges, p2_hasDark, p2_least, p2_most, p2_mostEdges, p2_patterns, p2_ruleLines, p2_size, p2_unlike, p2_words, p2_patternCodes, p2_patternNodes, rfl, h⟩
        refine x_iload_n X dX9_readKind_62 2 rfl ?_
        refine x_bipush (v := 14) X dX9_readKind_63 (by decide) ?_
        refine x_icmp_ge (tgt := 100) X dX9_readKind_65 (by decide) (fun hc => ?_) (fun hc => ?_)
        · have h := h.1 hc
          exact x_sub X [0] rfl (k100 p1_begun p1_position p2_bannedCircles p2_endLines p2_endsJoined p2_fewestEdges p2_hasDark p2_least p2_most p2_mostEdges p2_patterns p2_ruleLines p2_size p2_unlike p2_words p2_patternCodes p2_patternNodes h)
        · have h := h.2 hc
          refine x_aload_n X dX9_readKind_68 0 rfl ?_
          refine x_callVI (av := []) (st := []) (wr := [(h_p2, .inr (5, [.int p2_size, .int p2_hasDark, .int p2_words, .int p2_ruleLines, .int p2_endLines, .int p2_most, .int p2_bannedCircles, .int p2_unlike, .int p2_patterns, .ref h_p2_patternNodes, .ref h_p2_patternCodes, .int p2_endsJoined, .int p2_fewestEdges, .int p2_mostEdges, .int p2_least])), (h_p2_patternCodes, aI T 2 p2_patternCodes), (h_p2_patternNodes, aI T 2 p2_patternNodes)]) X (c_X8_goesOn l D T h_p1 h_p1_bytes p1_begun p1_length p1_position p1_wrong p1_bytes _ h) yk_X8_goesOn tw_696 dX9_readKind_69 0 rfl rfl [0, 1] [2, 3, 4] rfl rfl rfl rfl (by decide) rfl rfl (Nat.le_of_ble_eq_true rfl) (Nat.le_of_ble_eq_true rfl) (Nat.le_of_ble_eq_true rfl) (Nat.zero_le _) (Nat.zero_le _) (fun r69 w1 hw => ?_)
          obtain ⟨p1_begun_69, p1_position_69, rfl, h⟩ := hw
          refine x_perm (ws2 := [(h_p1, .inr (7, [.ref h_p1_bytes, .int p1_length, .int p1_position_69, .int p1_begun_69, .int p1_wrong])), (h_p1_bytes, aI T 400 p1_bytes), (h_p2, .inr (5, [.int p2_size, .int p2_hasDark, .int p2_words, .int p2_ruleLines, .int p2_endLines, .int p2_most, .int p2_bannedCircles, .int p2_unlike, .int p2_patterns, .ref h_p2_patternNodes, .ref h_p2_patternCodes, .int p2_endsJoined, .int p2_fewestEdges, .int p2_mostEdges, .int p2_least])), (h_p2_patternCodes, aI T 2 p2_patternCodes), (h_p2_patternNodes, aI T 2 p2_patternNodes)]) X [3, 4, 0, 1, 2] rfl rfl ?_
          refine x_if_eq (tgt := 100) X dX9_readKind_72 (by decide) (fun hc => ?_) (fun hc => ?_)
          · have h := h.1 hc
            exact x_sub X [0] rfl (k100 p1_begun_69 p1_position_69 p2_bannedCircles p2_endLines p2_endsJoined p2_fewestEdges p2_hasDark p2_least p2_most p2_mostEdges p2_patterns p2_ruleLines p2_size p2_unlike p2_words p2_patternCodes p2_patternNodes h)
          · have h := h.2 hc
            refine x_aload_n X dX9_readKind_75 0 rfl ?_
            refine x_bipush (v := 59) X dX9_readKind_76 (by decide) ?_
            refine x_callVI (av := [.int (59 : Int32)]) (st := []) (wr := [(h_p2, .inr (5, [.int p2_size, .int p2_hasDark, .int p2_words, .int p2_ruleLines, .int p2_endLines, .int p2_most, .int p2_bannedCircles, .int p2_unlike, .int p2_patterns, .ref h_p2_patternNodes, .ref h_p2_patternCodes, .int p2_endsJoined, .int p2_fewestEdges, .int p2_mostEdges, .int p2_least])), (h_p2_patternCodes, aI T 2 p2_patternCodes), (h_p2_patternNodes, aI T 2 p2_patternNodes)]) X (c_X8_takesSign l D T h_p1 h_p1_bytes p1_begun_69 p1_length p1_position_69 p1_wrong p1_bytes (59 : Int32) _ h) yk_X8_takesSign tw_700 dX9_readKind_78 0 rfl rfl [0, 1] [2, 3, 4] rfl rfl rfl rfl (by decide) rfl rfl (Nat.le_of_ble_eq_true rfl) (Nat.le_of_ble_eq_true rfl) (Nat.le_of_ble_eq_true rfl) (Nat.zero_le _) (Nat.zero_le _) (fun r78 w1 hw => ?_)
            obtain ⟨p1_begun_78, p1_position_78, rfl, h⟩ := hw
            refine x_perm (ws2 := [(h_p1, .inr (7, [.ref h_p1_bytes, .int p1_length, .int p1_position_78, .int p1_begun_78, .int p1_wrong])), (h_p1_bytes, aI T 400 p1_bytes), (h_p2, .inr (5, [.int p2_size, .int p2_hasDark, .int p2_words, .int p2_ruleLines, .int p2_endLines, .int p2_most, .int p2_bannedCircles, .int p2_unlike, .int p2_patterns, .ref h_p2_patternNodes, .ref h_p2_patternCodes, .int p2_endsJoined, .int p2_fewestEdges, .int p2_mostEdges, .int p2_least])), (h_p2_patternCodes, aI T 2 p2_patternCodes), (h_p2_patternNodes, aI T 2 p2_patternNodes)]) X [3, 4, 0, 1, 2] rfl rfl ?_
            refine x_if_eq (tgt := 92) X dX9_readKind_81 (by decide) (fun hc => ?_) (fun hc => ?_)
            · have h := h.1 hc
              exact x_sub X [] rfl (k92 p1_begun_78 p1_position_78 p2_bannedCircles p2_endLines p2_endsJoined p2_fewestEdges p2_hasDark p2_least p2_most p2_mostEdges p2_patterns p2_ruleLines p2_size p2_unlike p2_words p2_patternCodes p2_patternNodes h)
            · have h := h.2 hc
              refine x_aload_n X dX9_readKind_84 0 rfl ?_
              refine x_aload_n X dX9_readKind_85 1 rfl ?_
              refine x_callSI (av := [.ref h_p1, .ref h_p2]) (st := []) (wr := []) X (c_X9_readLine l D T h_p1 h_p1_bytes h_p2 h_p2_patternNodes h_p2_patternCodes p1_begun_78 p1_length p1_position_78 p1_wrong p1_bytes p2_bannedCircles p2_endLines p2_endsJoined p2_fewestEdges p2_hasDark p2_least p2_most p2_mostEdges p2_patterns p2_ruleLines p2_size p2_unlike p2_words p2_patternCodes p2_patternNodes _ h) yk_X9_readLine tw_704 dX9_readKind_86 [0, 1, 2, 3, 4] [] rfl rfl rfl rfl (by decide) rfl rfl (Nat.le_of_ble_eq_true rfl) (Nat.le_of_ble_eq_true rfl) (Nat.le_of_ble_eq_true rfl) (Nat.zero_le _) (Nat.zero_le _) (fun r86 w1 hw => ?_)
              obtain ⟨p1_begun_86, p1_position_86, p2_bannedCircles_86, p2_endLines_86, p2_endsJoined_86, p2_fewestEdges_86, p2_least_86, p2_most_86, p2_mostEdges_86, p2_patterns_86, p2_ruleLines_86, p2_unlike_86, p2_words_86, p2_patternCodes_86, p2_patternNodes_86, rfl, h⟩ := hw
              refine x_perm (ws2 := [(h_p1, .inr (7, [.ref h_p1_bytes, .int p1_length, .int p1_position_86, .int p1_begun_86, .int p1_wrong])), (h_p1_bytes, aI T 400 p1_bytes), (h_p2, .inr (5, [.int p2_size, .int p2_hasDark, .int p2_words_86, .int p2_ruleLines_86, .int p2_endLines_86, .int p2_most_86, .int p2_bannedCircles_86, .int p2_unlike_86, .int p2_patterns_86, .ref h_p2_patternNodes, .ref h_p2_patternCodes, .int p2_endsJoined_86, .int p2_fewestEdges_86, .int p2_mostEdges_86, .int p2_least_86])), (h_p2_patternCodes, aI T 2 p2_patternCodes_86), (h_p2_patternNodes, aI T 2 p2_patternNodes_86)]) X [0, 1, 2, 3, 4] rfl rfl ?_
              refine x_if_ne (tgt := 94) X dX9_readKind_89 (by decide) (fun hc => ?_) (fun hc => ?_)
              · have h := h.1 hc
                refine x_iinc (v := (x3 + 1)) (lv' := [(3, .int (x3 + 1)), (1, .ref h_p1), (2, .ref h_p2)]) X dX9_readKind_94 2 rfl rfl (by decide) rfl ?_
                refine x_goto (tgt := 62) X dX9_readKind_97 (by decide) ?_
                exact x_sub X [1, 2, 0] rfl (ih62 (x3 + 1) p1_begun_86 p1_position_86 p2_bannedCircles_86 p2_endLines_86 p2_endsJoined_86 p2_fewestEdges_86 p2_hasDark p2_least_86 p2_most_86 p2_mostEdges_86 p2_patterns_86 p2_ruleLines_86 p2_size p2_unlike_86 p2_words_86 p2_patternCodes_86 p2_patternNodes_86 h)
              · have h := h.2 hc
                exact x_sub X [] rfl (k92 p1_begun_86 p1_position_86 p2_bannedCircles_86 p2_endLines_86 p2_endsJoined_86 p2_fewestEdges_86 p2_hasDark p2_least_86 p2_most_86 p2_mostEdges_86 p2_patterns_86 p2_ruleLines_86 p2_size p2_unlike_86 p2_words_86 p2_patternCodes_86 p2_patternNodes_86 h)
    refine x_iconst (v := 0) X dX9_readKind_60 (by decide) ?_
    refine x_istore_n (lv' := [(3, .int (0 : Int32)), (1, .ref h_p1), (2, .ref h_p2)]) X dX9_readKind_61 (by decide) rfl ?_
    obtain ⟨n62, h⟩ := h
    exact x_sub X [1, 2, 0] rfl (k62 n62 (0 : Int32) p1_begun p1_position p2_bannedCircles p2_endLines p2_endsJoined p2_fewestEdges p2_hasDark p2_least p2_most p2_mostEdges p2_patterns p2_ruleLines p2_size p2_unlike p2_words p2_patternCodes p2_patternNodes h)
  refine x_aload_n X dX9_readKind_0 2 rfl ?_
  refine x_callVV (av := []) (st := []) (wr := [(h_p1, .inr (7, [.ref h_p1_bytes, .int p1_length, .int p1_position, .int p1_begun, .int p1_wrong])), (h_p1_bytes, aI T 400 p1_bytes), (h_p2_patternCodes, aI T 2 p2_patternCodes), (h_p2_patternNodes, aI T 2 p2_patternNodes)]) X (c_X6_clear l D T h_p2 h_p2_patternNodes h_p2_patternCodes p2_bannedCircles p2_endLines p2_endsJoined p2_fewestEdges p2_hasDark p2_least p2_most p2_mostEdges p2_patterns p2_ruleLines p2_size p2_unlike p2_words _ h) yk_X6_clear tw_621 dX9_readKind_1 2 rfl rfl [2] [0, 1, 3, 4] rfl rfl rfl rfl (by decide) rfl rfl (Nat.le_of_ble_eq_true rfl) (Nat.le_of_ble_eq_true rfl) (Nat.le_of_ble_eq_true rfl) (Nat.zero_le _) (Nat.zero_le _) (fun w1 hw => ?_)
  obtain ⟨p2_bannedCircles_1, p2_endLines_1, p2_endsJoined_1, p2_fewestEdges_1, p2_hasDark_1, p2_least_1, p2_most_1, p2_mostEdges_1, p2_patterns_1, p2_ruleLines_1, p2_size_1, p2_unlike_1, p2_words_1, rfl, h⟩ := hw
  refine x_perm (ws2 := [(h_p1, .inr (7, [.ref h_p1_bytes, .int p1_length, .int p1_position, .int p1_begun, .int p1_wrong])), (h_p1_bytes, aI T 400 p1_bytes), (h_p2, .inr (5, [.int p2_size_1, .int p2_hasDark_1, .int p2_words_1, .int p2_ruleLines_1, .int p2_endLines_1, .int p2_most_1, .int p2_bannedCircles_1, .int p2_unlike_1, .int p2_patterns_1, .ref h_p2_patternNodes, .ref h_p2_patternCodes, .int p2_endsJoined_1, .int p2_fewestEdges_1, .int p2_mostEdges_1, .int p2_least_1])), (h_p2_patternCodes, aI T 2 p2_patternCodes), (h_p2_patternNodes, aI T 2 p2_patternNodes)]) X [0, 1, 4, 2, 3] rfl rfl ?_
  refine x_aload_n X dX9_readKind_4 1 rfl ?_
  refine x_ldcS X 0 (by decide) rfl rfl dX9_readKind_5 ?_
  refine x_callVI (av := [.ref (D.2.1 0)]) (st := []) (wr := [(h_p2, .inr (5, [.int p2_size_1, .int p2_hasDark_1, .int p2_words_1, .int p2_ruleLines_1, .int p2_endLines_1, .int p2_most_1, .int p2_bannedCircles_1, .int p2_unlike_1, .int p2_patterns_1, .ref h_p2_patternNodes, .ref h_p2_patternCodes, .int p2_endsJoined_1, .int p2_fewestEdges_1, .int p2_mostEdges_1, .int p2_least_1])), (h_p2_patternCodes, aI T 2 p2_patternCodes), (h_p2_patternNodes, aI T 2 p2_patternNodes)]) X (c_X8_takesWord l D T h_p1 h_p1_bytes p1_begun p1_length p1_position p1_wrong p1_bytes 0 _ h) yk_X8_takesWord tw_623 dX9_readKind_7 0 rfl rfl [0, 1] [2, 3, 4] rfl rfl rfl rfl (by decide) rfl rfl (Nat.le_of_ble_eq_true rfl) (Nat.le_of_ble_eq_true rfl) (Nat.le_of_ble_eq_true rfl) (Nat.zero_le _) (Nat.zero_le _) (fun r7 w1 hw => ?_)
  obtain ⟨p1_begun_7, p1_position_7, rfl, h⟩ := hw
  refine x_perm (ws2 := [(h_p1, .inr (7, [.ref h_p1_bytes, .int p1_length, .int p1_position_7, .int p1_begun_7, .int p1_wrong])), (h_p1_bytes, aI T 400 p1_bytes), (h_p2, .inr (5, [.int p2_size_1, .int p2_hasDark_1, .int p2_words_1, .int p2_ruleLines_1, .int p2_endLines_1, .int p2_most_1, .int p2_bannedCircles_1, .int p2_unlike_1, .int p2_patterns_1, .ref h_p2_patternNodes, .ref h_p2_patternCodes, .int p2_endsJoined_1, .int p2_fewestEdges_1, .int p2_mostEdges_1, .int p2_least_1])), (h_p2_patternCodes, aI T 2 p2_patternCodes), (h_p2_patternNodes, aI T 2 p2_patternNodes)]) X [3, 4, 0, 1, 2] rfl rfl ?_
  refine x_if_ne (tgt := 15) X dX9_readKind_10 (by decide) (fun hc => ?_) (fun hc => ?_)
  · have h := h.1 hc
    refine x_aload_n X dX9_readKind_15 2 rfl ?_
    refine x_aload_n X dX9_readKind_16 1 rfl ?_
    refine x_iconst (v := 1) X dX9_readKind_17 (by decide) ?_
    refine x_bipush (v := 6) X dX9_readKind_18 (by decide) ?_
    refine x_callVI (av := [.int (1 : Int32), .int (6 : Int32)]) (st := [.ref h_p2]) (wr := [(h_p2, .inr (5, [.int p2_size_1, .int p2_hasDark_1, .int p2_words_1, .int p2_ruleLines_1, .int p2_endLines_1, .int p2_most_1, .int p2_bannedCircles_1, .int p2_unlike_1, .int p2_patterns_1, .ref h_p2_patternNodes, .ref h_p2_patternCodes, .int p2_endsJoined_1, .int p2_fewestEdges_1, .int p2_mostEdges_1, .int p2_least_1])), (h_p2_patternCodes, aI T 2 p2_patternCodes), (h_p2_patternNodes, aI T 2 p2_patternNodes)]) X (c_X8_takeNumber l D T h_p1 h_p1_bytes p1_begun_7 p1_length p1_position_7 p1_wrong p1_bytes (1 : Int32) (6 : Int32) _ h) yk_X8_takeNumber tw_687 dX9_readKind_20 0 rfl rfl [0, 1] [2, 3, 4] rfl rfl rfl rfl (by decide) rfl rfl (Nat.le_of_ble_eq_true rfl) (Nat.le_of_ble_eq_true rfl) (Nat.le_of_ble_eq_true rfl) (Nat.zero_le _) (Nat.zero_le _) (fun r20 w1 hw => ?_)
    obtain ⟨p1_begun_20, p1_position_20, rfl, h⟩ := hw
    refine x_perm (ws2 := [(h_p1, .inr (7, [.ref h_p1_bytes, .int p1_length, .int p1_position_20, .int p1_begun_20, .int p1_wrong])), (h_p1_bytes, aI T 400 p1_bytes), (h_p2, .inr (5, [.int p2_size_1, .int p2_hasDark_1, .int p2_words_1, .int p2_ruleLines_1, .int p2_endLines_1, .int p2_most_1, .int p2_bannedCircles_1, .int p2_unlike_1, .int p2_patterns_1, .ref h_p2_patternNodes, .ref h_p2_patternCodes, .int p2_endsJoined_1, .int p2_fewestEdges_1, .int p2_mostEdges_1, .int p2_least_1])), (h_p2_patternCodes, aI T 2 p2_patternCodes), (h_p2_patternNodes, aI T 2 p2_patternNodes)]) X [3, 4, 0, 1, 2] rfl rfl ?_
    refine x_putN (ws' := [(h_p1, .inr (7, [.ref h_p1_bytes, .int p1_length, .int p1_position_20, .int p1_begun_20, .int p1_wrong])), (h_p1_bytes, aI T 400 p1_bytes), (h_p2, .inr (5, [.int r20, .int p2_hasDark_1, .int p2_words_1, .int p2_ruleLines_1, .int p2_endLines_1, .int p2_most_1, .int p2_bannedCircles_1, .int p2_unlike_1, .int p2_patterns_1, .ref h_p2_patternNodes, .ref h_p2_patternCodes, .int p2_endsJoined_1, .int p2_fewestEdges_1, .int p2_mostEdges_1, .int p2_least_1])), (h_p2_patternCodes, aI T 2 p2_patternCodes), (h_p2_patternNodes, aI T 2 p2_patternNodes)]) X inGX6 tyX6_ok nmX6 0 (by decide) rfl tw_73 dX9_readKind_23 rfl rfl 2 rfl rfl rfl (Nat.le_of_ble_eq_true rfl) rfl ?_
    refine x_aload_n X dX9_readKind_26 2 rfl ?_
    refine x_getN X inGX6 0 (by decide) rfl tw_73 dX9_readKind_27 rfl 2 rfl rfl ?_
    refine x_iconst (v := -1) X dX9_readKind_30 (by decide) ?_
    refine x_icmp_ne (tgt := 36) X dX9_readKind_31 (by decide) (fun hc => ?_) (fun hc => ?_)
    · have h := h.1 hc
      refine x_aload_n X dX9_readKind_36 1 rfl ?_
      refine x_ldcS X 1 (by decide) rfl rfl dX9_readKind_37 ?_
      refine x_callVI (av := [.ref (D.2.1 1)]) (st := []) (wr := [(h_p2, .inr (5, [.int r20, .int p2_hasDark_1, .int p2_words_1, .int p2_ruleLines_1, .int p2_endLines_1, .int p2_most_1, .int p2_bannedCircles_1, .int p2_unlike_1, .int p2_patterns_1, .ref h_p2_patternNodes, .ref h_p2_patternCodes, .int p2_endsJoined_1, .int p2_fewestEdges_1, .int p2_mostEdges_1, .int p2_least_1])), (h_p2_patternCodes, aI T 2 p2_patternCodes), (h_p2_patternNodes, aI T 2 p2_patternNodes)]) X (c_X8_takesWord l D T h_p1 h_p1_bytes p1_begun_20 p1_length p1_position_20 p1_wrong p1_bytes 1 _ h) yk_X8_takesWord tw_623 dX9_readKind_39 0 rfl rfl [0, 1] [2, 3, 4] rfl rfl rfl rfl (by decide) rfl rfl (Nat.le_of_ble_eq_true rfl) (Nat.le_of_ble_eq_true rfl) (Nat.le_of_ble_eq_true rfl) (Nat.zero_le _) (Nat.zero_le _) (fun r39 w1 hw => ?_)
      obtain ⟨p1_begun_39, p1_position_39, rfl, h⟩ := hw
      refine x_perm (ws2 := [(h_p1, .inr (7, [.ref h_p1_bytes, .int p1_length, .int p1_position_39, .int p1_begun_39, .int p1_wrong])), (h_p1_bytes, aI T 400 p1_bytes), (h_p2, .inr (5, [.int r20, .int p2_hasDark_1, .int p2_words_1, .int p2_ruleLines_1, .int p2_endLines_1, .int p2_most_1, .int p2_bannedCircles_1, .int p2_unlike_1, .int p2_patterns_1, .ref h_p2_patternNodes, .ref h_p2_patternCodes, .int p2_endsJoined_1, .int p2_fewestEdges_1, .int p2_mostEdges_1, .int p2_least_1])), (h_p2_patternCodes, aI T 2 p2_patternCodes), (h_p2_patternNodes, aI T 2 p2_patternNodes)]) X [3, 4, 0, 1, 2] rfl rfl ?_
      refine x_if_eq (tgt := 60) X dX9_readKind_42 (by decide) (fun hc => ?_) (fun hc => ?_)
      · have h := h.1 hc
        exact x_sub X [1, 2] rfl (k60 p1_begun_39 p1_position_39 p2_bannedCircles_1 p2_endLines_1 p2_endsJoined_1 p2_fewestEdges_1 p2_hasDark_1 p2_least_1 p2_most_1 p2_mostEdges_1 p2_patterns_1 p2_ruleLines_1 r20 p2_unlike_1 p2_words_1 p2_patternCodes p2_patternNodes h)
      · have h := h.2 hc
        refine x_aload_n X dX9_readKind_45 2 rfl ?_
        refine x_getN X inGX6 0 (by decide) rfl tw_73 dX9_readKind_46 rfl 2 rfl rfl ?_
        refine x_iconst (v := 5) X dX9_readKind_49 (by decide) ?_
        refine x_icmp_le (tgt := 55) X dX9_readKind_50 (by decide) (fun hc => ?_) (fun hc => ?_)
        · have h := h.1 hc
          refine x_aload_n X dX9_readKind_55 2 rfl ?_
          refine x_iconst (v := 1) X dX9_readKind_56 (by decide) ?_
          refine x_putN (ws' := [(h_p1, .inr (7, [.ref h_p1_bytes, .int p1_length, .int p1_position_39, .int p1_begun_39, .int p1_wrong])), (h_p1_bytes, aI T 400 p1_bytes), (h_p2, .inr (5, [.int r20, .int (1 : Int32), .int p2_words_1, .int p2_ruleLines_1, .int p2_endLines_1, .int p2_most_1, .int p2_bannedCircles_1, .int p2_unlike_1, .int p2_patterns_1, .ref h_p2_patternNodes, .ref h_p2_patternCodes, .int p2_endsJoined_1, .int p2_fewestEdges_1, .int p2_mostEdges_1, .int p2_least_1])), (h_p2_patternCodes, aI T 2 p2_patternCodes), (h_p2_patternNodes, aI T 2 p2_patternNodes)]) X inGX6 tyX6_ok nmX6 1 (by decide) rfl tw_77 dX9_readKind_57 rfl rfl 2 rfl rfl rfl (Nat.le_of_ble_eq_true rfl) rfl ?_
          exact x_sub X [1, 2] rfl (k60 p1_begun_39 p1_position_39 p2_bannedCircles_1 p2_endLines_1 p2_endsJoined_1 p2_fewestEdges_1 (1 : Int32) p2_least_1 p2_most_1 p2_mostEdges_1 p2_patterns_1 p2_ruleLines_1 r20 p2_unlike_1 p2_words_1 p2_patternCodes p2_patternNodes h)
        · have h := h.2 hc
          refine x_iconst (v := 0) X dX9_readKind_53 (by decide) ?_
          obtain ⟨hz, h⟩ := h
          exact hret _ _ _ _ dX9_readKind_54 (e_nz hz) ⟨p1_begun_39, p1_position_39, p2_bannedCircles_1, p2_endLines_1, p2_endsJoined_1, p2_fewestEdges_1, p2_hasDark_1, p2_least_1, p2_most_1, p2_mostEdges_1, p2_patterns_1, p2_ruleLines_1, r20, p2_unlike_1, p2_words_1, p2_patternCodes, p2_patternNodes, rfl, h⟩
    · have h := h.2 hc
      refine x_iconst (v := 0) X dX9_readKind_34 (by decide) ?_
      obtain ⟨hz, h⟩ := h
      exact hret _ _ _ _ dX9_readKind_35 (e_nz hz) ⟨p1_begun_20, p1_position_20, p2_bannedCircles_1, p2_endLines_1, p2_endsJoined_1, p2_fewestEdges_1, p2_hasDark_1, p2_least_1, p2_most_1, p2_mostEdges_1, p2_patterns_1, p2_ruleLines_1, r20, p2_unlike_1, p2_words_1, p2_patternCodes, p2_patternNodes, rfl, h⟩
  · have h := h.2 hc
    refine x_iconst (v := 0) X dX9_readKind_13 (by decide) ?_
    obtain ⟨hz, h⟩ := h
    exact hret _ _ _ _ dX9_readKind_14 (e_nz hz) ⟨p1_begun_7, p1_position_7, p2_bannedCircles_1, p2_endLines_1, p2_endsJoined_1, p2_fewestEdges_1, p2_hasDark_1, p2_least_1, p2_most_1, p2_mostEdges_1, p2_patterns_1, p2_ruleLines_1, p2_size_1, p2_unlike_1, p2_words_1, p2_patternCodes, p2_patternNodes, rfl, h⟩
theorem dX9_readColours_0 : decode cX9_readColours 0 = .ok (.iconst 0, 1) := by decide +kernel
theorem dX9_readColours_1 : decode cX9_readColours 1 = .ok (.istore_n 2, 1) := by decide +kernel
theorem dX9_readColours_2 : decode cX9_readColours 2 = .ok (.iconst 0, 1) := by decide +kernel
theorem dX9_readColours_3 : decode cX9_readColours 3 = .ok (.istore_n 3, 1) := by decide +kernel
theorem dX9_readColours_4 : decode cX9_readColours 4 = .ok (.iload_n 3, 1) := by decide +kernel
theorem dX9_readColours_5 : decode cX9_readColours 5 = .ok (.iload_n 1, 1) := by decide +kernel
theorem dX9_readColours_6 : decode cX9_readColours 6 = .ok (.if_icmp .gt 58, 3) := by decide +kernel
theorem dX9_readColours_9 : decode cX9_readColours 9 = .ok (.iload_n 3, 1) := by decide +kernel
theorem dX9_readColours_10 : decode cX9_readColours 10 = .ok (.ifCond .eq 10, 3) := by decide +kernel
theorem dX9_readColours_13 : decode cX9_readColours 13 = .ok (.aload_n 0, 1) := by decide +kernel
theorem dX9_readColours_14 : decode cX9_readColours 14 = .ok (.invokevirtual 148, 3) := by decide +kernel
theorem dX9_readColours_17 : decode cX9_readColours 17 = .ok (.ifCond .eq 47, 3) := by decide +kernel
theorem dX9_readColours_20 : decode cX9_readColours 20 = .ok (.aload_n 0, 1) := by decide +kernel
theorem dX9_readColours_21 : decode cX9_readColours 21 = .ok (.iconst 0, 1) := by decide +kernel
theorem dX9_readColours_22 : decode cX9_readColours 22 = .ok (.iload_n 1, 1) := by decide +kernel
theorem dX9_readColours_23 : decode cX9_readColours 23 = .ok (.iconst 1, 1) := by decide +kernel
theorem dX9_readColours_24 : decode cX9_readColours 24 = .ok (.isub, 1) := by decide +kernel
theorem dX9_readColours_25 : decode cX9_readColours 25 = .ok (.invokevirtual 22, 3) := by decide +kernel
theorem dX9_readColours_28 : decode cX9_readColours 28 = .ok (.istore 4, 2) := by decide +kernel
theorem dX9_readColours_30 : decode cX9_readColours 30 = .ok (.iload 4, 2) := by decide +kernel
theorem dX9_readColours_32 : decode cX9_readColours 32 = .ok (.iconst (-1), 1) := by decide +kernel
theorem dX9_readColours_33 : decode cX9_readColours 33 = .ok (.if_icmp .eq 14, 3) := by decide +kernel
theorem dX9_readColours_36 : decode cX9_readColours 36 = .ok (.iload_n 2, 1) := by decide +kernel
theorem dX9_readColours_37 : decode cX9_readColours 37 = .ok (.iload_n 1, 1) := by decide +kernel
theorem dX9_readColours_38 : decode cX9_readColours 38 = .ok (.iload 4, 2) := by decide +kernel
theorem dX9_readColours_40 : decode cX9_readColours 40 = .ok (.invokestatic 151, 3) := by decide +kernel
theorem dX9_readColours_43 : decode cX9_readColours 43 = .ok (.iand, 1) := by decide +kernel
theorem dX9_readColours_44 : decode cX9_readColours 44 = .ok (.ifCond .eq 5, 3) := by decide +kernel
theorem dX9_readColours_47 : decode cX9_readColours 47 = .ok (.iconst (-1), 1) := by decide +kernel
theorem dX9_readColours_48 : decode cX9_readColours 48 = .ok (.ireturn, 1) := by decide +kernel
theorem dX9_readColours_49 : decode cX9_readColours 49 = .ok (.iload_n 2, 1) := by decide +kernel
theorem dX9_readColours_50 : decode cX9_readColours 50 = .ok (.iload_n 1, 1) := by decide +kernel
theorem dX9_readColours_51 : decode cX9_readColours 51 = .ok (.iload 4, 2) := by decide +kernel
theorem dX9_readColours_53 : decode cX9_readColours 53 = .ok (.invokestatic 151, 3) := by decide +kernel
theorem dX9_readColours_56 : decode cX9_readColours 56 = .ok (.ior, 1) := by decide +kernel
theorem dX9_readColours_57 : decode cX9_readColours 57 = .ok (.istore_n 2, 1) := by decide +kernel
theorem dX9_readColours_58 : decode cX9_readColours 58 = .ok (.iinc 3 1, 3) := by decide +kernel
theorem dX9_readColours_61 : decode cX9_readColours 61 = .ok (.goto (-57), 3) := by decide +kernel
theorem dX9_readColours_64 : decode cX9_readColours 64 = .ok (.iload_n 2, 1) := by decide +kernel
theorem dX9_readColours_65 : decode cX9_readColours 65 = .ok (.ireturn, 1) := by decide +kernel
set_option maxHeartbeats 4000000 in
set_option maxRecDepth 100000 in
theorem c_X9_readColours (l : Launch) (D : eD) (T : Nat → ClassId) (h_p0 h_p0_bytes : Nat) (p0_begun : Int32) (p0_length : Int32) (p0_position : Int32) (p0_wrong : Int32) (p0_bytes : Nat → Int32) (p1 : Int32) (post : Int32 → Int32 → Int32 → Prop) (h : F_X9_readColours p0_length p0_bytes p0_begun p0_position p1 post) : cI l D T yX9_readColours cX9_readColours 5 (some .int) 3 67 0 0 [.ref h_p0, .int p1] [(h_p0, .inr (7, [.ref h_p0_bytes, .int p0_length, .int p0_position, .int p0_begun, .int p0_wrong])), (h_p0_bytes, aI T 400 p0_bytes)] (fun r w1 => ∃ (p0_begun1 : Int32) (p0_position1 : Int32), w1 = [(h_p0, .inr (7, [.ref h_p0_bytes, .int p0_length, .int p0_position1, .int p0_begun1, .int p0_wrong])), (h_p0_bytes, aI T 400 p0_bytes)] ∧ post r p0_begun1 p0_position1) := by
  refine xI_of (ty := .int) (by decide +kernel) (Nat.le_of_ble_eq_true rfl) rfl ?_
  intro G X hret
  change G 0 0 0 [(0, .ref h_p0), (1, .int p1)] [] [(h_p0, .inr (7, [.ref h_p0_bytes, .int p0_length, .int p0_position, .int p0_begun, .int p0_wrong])), (h_p0_bytes, aI T 400 p0_bytes)]
  unfold F_X9_readColours at h
  have k4 : ∀ (n4 : Nat) (x1 : Int32) (x2 : Int32) (x3 : Int32) (p0_begun : Int32) (p0_position : Int32), F_X9_readColours_4 p0_length p0_bytes post n4 x1 x2 x3 p0_begun p0_position → G 0 0 4 [(0, .ref h_p0), (1, .int x1), (2, .int x2), (3, .int x3)] [] [(h_p0, .inr (7, [.ref h_p0_bytes, .int p0_length, .int p0_position, .int p0_begun, .int p0_wrong])), (h_p0_bytes, aI T 400 p0_bytes)] := by
    intro n4
    induction n4 with
    | zero => intro x1 x2 x3 p0_begun p0_position h; exact h.elim
    | succ n4 ih4 =>
      intro x1 x2 x3 p0_begun p0_position h
      rw [F_X9_readColours_4] at h
      have k20 : ∀ (x1 : Int32) (x2 : Int32) (x3 : Int32) (p0_begun : Int32) (p0_position : Int32), F_X9_readColours_20 p0_length p0_bytes post (F_X9_readColours_4 p0_length p0_bytes post n4) x1 x2 x3 p0_begun p0_position → G 0 0 20 [(0, .ref h_p0), (1, .int x1), (2, .int x2), (3, .int x3)] [] [(h_p0, .inr (7, [.ref h_p0_bytes, .int p0_length, .int p0_position, .int p0_begun, .int p0_wrong])), (h_p0_bytes, aI T 400 p0_bytes)] := by
        intro x1 x2 x3 p0_begun p0_position h
        unfold F_X9_readColours_20 at h
        have k47 : ∀ (p0_begun : Int32) (p0_position : Int32), F_X9_readColours_47 p0_length p0_bytes post p0_begun p0_position → G 0 0 47 [] [] [(h_p0, .inr (7, [.ref h_p0_bytes, .int p0_length, .int p0_position, .int p0_begun, .int p0_wrong])), (h_p0_bytes, aI T 400 p0_bytes)] := by
          intro p0_begun p0_position h
          unfold F_X9_readColours_47 at h
          refine x_iconst (v := -1) X dX9_readColours_47 (by decide) ?_
          exact hret _ _ _ _ dX9_readColours_48 rfl ⟨p0_begun, p0_position, rfl, h⟩
        refine x_aload_n X dX9_readColours_20 0 rfl ?_
        refine x_iconst (v := 0) X dX9_readColours_21 (by decide) ?_
        refine x_iload_n X dX9_readColours_22 1 rfl ?_
        refine x_iconst (v := 1) X dX9_readColours_23 (by decide) ?_
        refine x_isub X dX9_readColours_24 ?_
        refine x_callVI (av := [.int (0 : Int32), .int (x1 - (1 : Int32))]) (st := []) (wr := []) X (c_X8_takeNumber l D T h_p0 h_p0_bytes p0_begun p0_length p0_position p0_wrong p0_bytes (0 : Int32) (x1 - (1 : Int32)) _ h) yk_X8_takeNumber tw_687 dX9_readColours_25 0 rfl rfl [0, 1] [] rfl rfl rfl rfl (by decide) rfl rfl (Nat.le_of_ble_eq_true rfl) (Nat.le_of_ble_eq_true rfl) (Nat.le_of_ble_eq_true rfl) (Nat.zero_le _) (Nat.zero_le _) (fun r25 w1 hw => ?_)
        obtain ⟨p0_begun_25, p0_position_25, rfl, h⟩ := hw
        refine x_perm (ws2 := [(h_p0, .inr (7, [.ref h_p0_bytes, .int p0_length, .int p0_position_25, .int p0_begun_25, .int p0_wrong])), (h_p0_bytes, aI T 400 p0_bytes)]) X [0, 1] rfl rfl ?_
        refine x_istore (lv' := [(4, .int r25), (0, .ref h_p0), (1, .int x1), (2, .int x2), (3, .int x3)]) X dX9_readColours_28 (by decide) rfl ?_
        refine x_iload X dX9_readColours_30 0 rfl ?_
        refine x_iconst (v := -1) X dX9_readColours_32 (by decide) ?_
        refine x_icmp_eq (tgt := 47) X dX9_readColours_33 (by decide) (fun hc => ?_) (fun hc => ?_)
        · have h := h.1 hc
          exact x_sub X [] rfl (k47 p0_begun_25 p0_position_25 h)
        · have h := h.2 hc
          refine x_iload_n X dX9_readColours_36 3 rfl ?_
          refine x_iload_n X dX9_readColours_37 2 rfl ?_
          refine x_iload X dX9_readColours_38 0 rfl ?_
          refine x_callSI (av := [.int x1, .int r25]) (st := [.int x2]) (wr := [(h_p0, .inr (7, [.ref h_p0_bytes, .int p0_length, .int p0_position_25, .int p0_begun_25, .int p0_wrong])), (h_p0_bytes, aI T 400 p0_bytes)]) X (c_X0_dark l D T  x1 r25 _ h) yk_X0_dark tw_860 dX9_readColours_40 [] [0, 1] rfl rfl rfl rfl (by decide) rfl rfl (Nat.le_of_ble_eq_true rfl) (Nat.le_of_ble_eq_true rfl) (Nat.le_of_ble_eq_true rfl) (Nat.zero_le _) (Nat.zero_le _) (fun r40 w1 hw => ?_)
          obtain ⟨rfl, h⟩ := hw
          refine x_perm (ws2 := [(h_p0, .inr (7, [.ref h_p0_bytes, .int p0_length, .int p0_position_25, .int p0_begun_25, .int p0_wrong])), (h_p0_bytes, aI T 400 p0_bytes)]) X [0, 1] rfl rfl ?_
          refine x_iand X dX9_readColours_43 ?_
          refine x_if_eq (tgt := 49) X dX9_readColours_44 (by decide) (fun hc => ?_) (fun hc => ?_)
          · have h := h.1 hc
            refine x_iload_n X dX9_readColours_49 3 rfl ?_
            refine x_iload_n X dX9_readColours_50 2 rfl ?_
            refine x_iload X dX9_readColours_51 0 rfl ?_
            refine x_callSI (av := [.int x1, .int r25]) (st := [.int x2]) (wr := [(h_p0, .inr (7, [.ref h_p0_bytes, .int p0_length, .int p0_position_25, .int p0_begun_25, .int p0_wrong])), (h_p0_bytes, aI T 400 p0_bytes)]) X (c_X0_dark l D T  x1 r25 _ h) yk_X0_dark tw_860 dX9_readColours_53 [] [0, 1] rfl rfl rfl rfl (by decide) rfl rfl (Nat.le_of_ble_eq_true rfl) (Nat.le_of_ble_eq_true rfl) (Nat.le_of_ble_eq_true rfl) (Nat.zero_le _) (Nat.zero_le _) (fun r53 w1 hw => ?_)
            obtain ⟨rfl, h⟩ := hw
            refine x_perm (ws2 := [(h_p0, .inr (7, [.ref h_p0_bytes, .int p0_length, .int p0_position_25, .int p0_begun_25, .int p0_wrong])), (h_p0_bytes, aI T 400 p0_bytes)]) X [0, 1] rfl rfl ?_
            refine x_ior X dX9_readColours_56 ?_
            refine x_istore_n (lv' := [(2, .int (x2 ||| r53)), (4, .int r25), (0, .ref h_p0), (1, .int x1), (3, .int x3)]) X dX9_readColours_57 (by decide) rfl ?_
            refine x_iinc (v := (x3 + 1)) (lv' := [(3, .int (x3 + 1)), (2, .int (x2 ||| r53)), (4, .int r25), (0, .ref h_p0), (1, .int x1)]) X dX9_readColours_58 4 rfl rfl (by decide) rfl ?_
            refine x_goto (tgt := 4) X dX9_readColours_61 (by decide) ?_
            exact x_sub X [3, 4, 1, 0] rfl (ih4 x1 (x2 ||| r53) (x3 + 1) p0_begun_25 p0_position_25 h)
          · have h := h.2 hc
            exact x_sub X [] rfl (k47 p0_begun_25 p0_position_25 h)
      have k64 : ∀ (x2 : Int32) (p0_begun : Int32) (p0_position : Int32), F_X9_readColours_64 p0_length p0_bytes post x2 p0_begun p0_position → G 0 0 64 [(2, .int x2)] [] [(h_p0, .inr (7, [.ref h_p0_bytes, .int p0_length, .int p0_position, .int p0_begun, .int p0_wrong])), (h_p0_bytes, aI T 400 p0_bytes)] := by
        intro x2 p0_begun p0_position h
        unfold F_X9_readColours_64 at h
        refine x_iload_n X dX9_readColours_64 0 rfl ?_
        exact hret _ _ _ _ dX9_readColours_65 rfl ⟨p0_begun, p0_position, rfl, h⟩
      refine x_iload_n X dX9_readColours_4 3 rfl ?_
      refine x_iload_n X dX9_readColours_5 1 rfl ?_
      refine x_icmp_gt (tgt := 64) X dX9_readColours_6 (by decide) (fun hc => ?_) (fun hc => ?_)
      · have h := h.1 hc
        exact x_sub X [2] rfl (k64 x2 p0_begun p0_position h)
      · have h := h.2 hc
        refine x_iload_n X dX9_readColours_9 3 rfl ?_
        refine x_if_eq (tgt := 20) X dX9_readColours_10 (by decide) (fun hc => ?_) (fun hc => ?_)
        · have h := h.1 hc
          exact x_sub X [0, 1, 2, 3] rfl (k20 x1 x2 x3 p0_begun p0_position h)
        · have h := h.2 hc
          refine x_aload_n X dX9_readColours_13 0 rfl ?_
          refine x_callVI (av := []) (st := []) (wr := []) X (c_X8_digitComes l D T h_p0 h_p0_bytes p0_begun p0_length p0_position p0_wrong p0_bytes _ h) yk_X8_digitComes tw_856 dX9_readColours_14 0 rfl rfl [0, 1] [] rfl rfl rfl rfl (by decide) rfl rfl (Nat.le_of_ble_eq_true rfl) (Nat.le_of_ble_eq_true rfl) (Nat.le_of_ble_eq_true rfl) (Nat.zero_le _) (Nat.zero_le _) (fun r14 w1 hw => ?_)
          obtain ⟨p0_begun_14, p0_position_14, rfl, h⟩ := hw
          refine x_perm (ws2 := [(h_p0, .inr (7, [.ref h_p0_bytes, .int p0_length, .int p0_position_14, .int p0_begun_14, .int p0_wrong])), (h_p0_bytes, aI T 400 p0_bytes)]) X [0, 1] rfl rfl ?_
          refine x_if_eq (tgt := 64) X dX9_readColours_17 (by decide) (fun hc => ?_) (fun hc => ?_)
          · have h := h.1 hc
            exact x_sub X [2] rfl (k64 x2 p0_begun_14 p0_position_14 h)
          · have h := h.2 hc
            exact x_sub X [0, 1, 2, 3] rfl (k20 x1 x2 x3 p0_begun_14 p0_position_14 h)
  refine x_iconst (v := 0) X dX9_readColours_0 (by decide) ?_
  refine x_istore_n (lv' := [(2, .int (0 : Int32)), (0, .ref h_p0), (1, .int p1)]) X dX9_readColours_1 (by decide) rfl ?_
  refine x_iconst (v := 0) X dX9_readColours_2 (by decide) ?_
  refine x_istore_n (lv' := [(3, .int (0 : Int32)), (2, .int (0 : Int32)), (0, .ref h_p0), (1, .int p1)]) X dX9_readColours_3 (by decide) rfl ?_
  obtain ⟨n4, h⟩ := h
  exact x_sub X [2, 3, 1, 0] rfl (k4 n4 p1 (0 : Int32) (0 : Int32) p0_begun p0_position h)
theorem dX9_readNet_0 : decode cX9_readNet 0 = .ok (.aload_n 1, 1) := by decide +kernel
theorem dX9_readNet_1 : decode cX9_readNet 1 = .ok (.ldc 137, 2) := by decide +kernel
theorem dX9_readNet_3 : decode cX9_readNet 3 = .ok (.invokevirtual 16, 3) := by decide +kernel
theorem dX9_readNet_6 : decode cX9_readNet 6 = .ok (.ifCond .ne 5, 3) := by decide +kernel
theorem dX9_readNet_9 : decode cX9_readNet 9 = .ok (.iconst 0, 1) := by decide +kernel
theorem dX9_readNet_10 : decode cX9_readNet 10 = .ok (.ireturn, 1) := by decide +kernel
theorem dX9_readNet_11 : decode cX9_readNet 11 = .ok (.aload_n 1, 1) := by decide +kernel
theorem dX9_readNet_12 : decode cX9_readNet 12 = .ok (.iconst 1, 1) := by decide +kernel
theorem dX9_readNet_13 : decode cX9_readNet 13 = .ok (.aload_n 2, 1) := by decide +kernel
theorem dX9_readNet_14 : decode cX9_readNet 14 = .ok (.getfield 26, 3) := by decide +kernel
theorem dX9_readNet_17 : decode cX9_readNet 17 = .ok (.invokevirtual 22, 3) := by decide +kernel
theorem dX9_readNet_20 : decode cX9_readNet 20 = .ok (.istore_n 3, 1) := by decide +kernel
theorem dX9_readNet_21 : decode cX9_readNet 21 = .ok (.iload_n 3, 1) := by decide +kernel
theorem dX9_readNet_22 : decode cX9_readNet 22 = .ok (.iconst (-1), 1) := by decide +kernel
theorem dX9_readNet_23 : decode cX9_readNet 23 = .ok (.if_icmp .ne 5, 3) := by decide +kernel
theorem dX9_readNet_26 : decode cX9_readNet 26 = .ok (.iconst 0, 1) := by decide +kernel
theorem dX9_readNet_27 : decode cX9_readNet 27 = .ok (.ireturn, 1) := by decide +kernel
theorem dX9_readNet_28 : decode cX9_readNet 28 = .ok (.iconst 0, 1) := by decide +kernel
theorem dX9_readNet_29 : decode cX9_readNet 29 = .ok (.istore 4, 2) := by decide +kernel
theorem dX9_readNet_31 : decode cX9_readNet 31 = .ok (.aload_n 1, 1) := by decide +kernel
theorem dX9_readNet_32 : decode cX9_readNet 32 = .ok (.ldc 30, 2) := by decide +kernel
theorem dX9_readNet_34 : decode cX9_readNet 34 = .ok (.invokevirtual 16, 3) := by decide +kernel
theorem dX9_readNet_37 : decode cX9_readNet 37 = .ok (.ifCond .eq 21, 3) := by decide +kernel
theorem dX9_readNet_40 : decode cX9_readNet 40 = .ok (.aload_n 2, 1) := by decide +kernel
theorem dX9_readNet_41 : decode cX9_readNet 41 = .ok (.getfield 32, 3) := by decide +kernel
theorem dX9_readNet_44 : decode cX9_readNet 44 = .ok (.ifCond .eq 11, 3) := by decide +kernel
theorem dX9_readNet_47 : decode cX9_readNet 47 = .ok (.aload_n 1, 1) := by decide +kernel
theorem dX9_readNet_48 : decode cX9_readNet 48 = .ok (.iload_n 3, 1) := by decide +kernel
theorem dX9_readNet_49 : decode cX9_readNet 49 = .ok (.invokestatic 139, 3) := by decide +kernel
theorem dX9_readNet_52 : decode cX9_readNet 52 = .ok (.goto 4, 3) := by decide +kernel
theorem dX9_readNet_55 : decode cX9_readNet 55 = .ok (.iconst (-1), 1) := by decide +kernel
theorem dX9_readNet_56 : decode cX9_readNet 56 = .ok (.istore 4, 2) := by decide +kernel
theorem dX9_readNet_58 : decode cX9_readNet 58 = .ok (.iload 4, 2) := by decide +kernel
theorem dX9_readNet_60 : decode cX9_readNet 60 = .ok (.iconst (-1), 1) := by decide +kernel
theorem dX9_readNet_61 : decode cX9_readNet 61 = .ok (.if_icmp .eq 21, 3) := by decide +kernel
theorem dX9_readNet_64 : decode cX9_readNet 64 = .ok (.aload_n 1, 1) := by decide +kernel
theorem dX9_readNet_65 : decode cX9_readNet 65 = .ok (.bipush 58, 2) := by decide +kernel
theorem dX9_readNet_67 : decode cX9_readNet 67 = .ok (.invokevirtual 42, 3) := by decide +kernel
theorem dX9_readNet_70 : decode cX9_readNet 70 = .ok (.ifCond .eq 12, 3) := by decide +kernel
theorem dX9_readNet_73 : decode cX9_readNet 73 = .ok (.aload_n 1, 1) := by decide +kernel
theorem dX9_readNet_74 : decode cX9_readNet 74 = .ok (.iload_n 3, 1) := by decide +kernel
theorem dX9_readNet_75 : decode cX9_readNet 75 = .ok (.iload 4, 2) := by decide +kernel
theorem dX9_readNet_77 : decode cX9_readNet 77 = .ok (.invokestatic 97, 3) := by decide +kernel
theorem dX9_readNet_80 : decode cX9_readNet 80 = .ok (.istore 4, 2) := by decide +kernel
theorem dX9_readNet_82 : decode cX9_readNet 82 = .ok (.iload 4, 2) := by decide +kernel
theorem dX9_readNet_84 : decode cX9_readNet 84 = .ok (.iconst (-1), 1) := by decide +kernel
theorem dX9_readNet_85 : decode cX9_readNet 85 = .ok (.if_icmp .eq 10, 3) := by decide +kernel
theorem dX9_readNet_88 : decode cX9_readNet 88 = .ok (.aload_n 1, 1) := by decide +kernel
theorem dX9_readNet_89 : decode cX9_readNet 89 = .ok (.invokevirtual 38, 3) := by decide +kernel
theorem dX9_readNet_92 : decode cX9_readNet 92 = .ok (.ifCond .eq 5, 3) := by decide +kernel
theorem dX9_readNet_95 : decode cX9_readNet 95 = .ok (.iconst 0, 1) := by decide +kernel
theorem dX9_readNet_96 : decode cX9_readNet 96 = .ok (.ireturn, 1) := by decide +kernel
theorem dX9_readNet_97 : decode cX9_readNet 97 = .ok (.aload_n 0, 1) := by decide +kernel
theorem dX9_readNet_98 : decode cX9_readNet 98 = .ok (.iload_n 3, 1) := by decide +kernel
theorem dX9_readNet_99 : decode cX9_readNet 99 = .ok (.putfield 143, 3) := by decide +kernel
theorem dX9_readNet_102 : decode cX9_readNet 102 = .ok (.aload_n 0, 1) := by decide +kernel
theorem dX9_readNet_103 : decode cX9_readNet 103 = .ok (.iload 4, 2) := by decide +kernel
theorem dX9_readNet_105 : decode cX9_readNet 105 = .ok (.putfield 145, 3) := by decide +kernel
theorem dX9_readNet_108 : decode cX9_readNet 108 = .ok (.iconst 1, 1) := by decide +kernel
theorem dX9_readNet_109 : decode cX9_readNet 109 = .ok (.ireturn, 1) := by decide +kernel
set_option maxHeartbeats 4000000 in
set_option maxRecDepth 100000 in
theorem c_X9_readNet (l : Launch) (D : eD) (T : Nat → ClassId) (h_p1 h_p1_bytes h_p2 h_p2_patternNodes h_p2_patternCodes h_t : Nat) (p1_begun : Int32) (p1_length : Int32) (p1_position : Int32) (p1_wrong : Int32) (p1_bytes : Nat → Int32) (p2_bannedCircles : Int32) (p2_endLines : Int32) (p2_endsJoined : Int32) (p2_fewestEdges : Int32) (p2_hasDark : Int32) (p2_least : Int32) (p2_most : Int32) (p2_mostEdges : Int32) (p2_patterns : Int32) (p2_ruleLines : Int32) (p2_size : Int32) (p2_unlike : Int32) (p2_words : Int32) (t_code : Int32) (t_nodes : Int32) (post : Int32 → Int32 → Int32 → Int32 → Int32 → Prop) (h : F_X9_readNet p1_length p1_bytes p2_hasDark p2_size p1_begun p1_position t_code t_nodes post) : cI l D T yX9_readNet cX9_readNet 5 (some .boolean) 6 163 0 0 [.ref h_t, .ref h_p1, .ref h_p2] [(h_p1, .inr (7, [.ref h_p1_bytes, .int p1_length, .int p1_position, .int p1_begun, .int p1_wrong])), (h_p1_bytes, aI T 400 p1_bytes), (h_p2, .inr (5, [.int p2_size, .int p2_hasDark, .int p2_words, .int p2_ruleLines, .int p2_endLines, .int p2_most, .int p2_bannedCircles, .int p2_unlike, .int p2_patterns, .ref h_p2_patternNodes, .ref h_p2_patternCodes, .int p2_endsJoined, .int p2_fewestEdges, .int p2_mostEdges, .int p2_least])), (h_t, .inr (8, [.int t_nodes, .int t_code]))] (fun r w1 => ∃ (p1_begun1 : Int32) (p1_position1 : Int32) (t_code1 : Int32) (t_nodes1 : Int32), w1 = [(h_p1, .inr (7, [.ref h_p1_bytes, .int p1_length, .int p1_position1, .int p1_begun1, .int p1_wrong])), (h_p1_bytes, aI T 400 p1_bytes), (h_p2, .inr (5, [.int p2_size, .int p2_hasDark, .int p2_words, .int p2_ruleLines, .int p2_endLines, .int p2_most, .int p2_bannedCircles, .int p2_unlike, .int p2_patterns, .ref h_p2_patternNodes, .ref h_p2_patternCodes, .int p2_endsJoined, .int p2_fewestEdges, .int p2_mostEdges, .int p2_least])), (h_t, .inr (8, [.int t_nodes1, .int t_code1]))] ∧ post r p1_begun1 p1_position1 t_code1 t_nodes1) := by
  refine xI_of (ty := .boolean) (by decide +kernel) (Nat.le_of_ble_eq_true rfl) rfl ?_
  intro G X hret
  change G 0 0 0 [(0, .ref h_t), (1, .ref h_p1), (2, .ref h_p2)] [] [(h_p1, .inr (7, [.ref h_p1_bytes, .int p1_length, .int p1_position, .int p1_begun, .int p1_wrong])), (h_p1_bytes, aI T 400 p1_bytes), (h_p2, .inr (5, [.int p2_size, .int p2_hasDark, .int p2_words, .int p2_ruleLines, .int p2_endLines, .int p2_most, .int p2_bannedCircles, .int p2_unlike, .int p2_patterns, .ref h_p2_patternNodes, .ref h_p2_patternCodes, .int p2_endsJoined, .int p2_fewestEdges, .int p2_mostEdges, .int p2_least])), (h_t, .inr (8, [.int t_nodes, .int t_code]))]
  unfold F_X9_readNet at h
  have k58 : ∀ (x3 : Int32) (x4 : Int32) (p1_begun : Int32) (p1_position : Int32) (t_code : Int32) (t_nodes : Int32), F_X9_readNet_58 p1_length p1_bytes p2_hasDark p2_size post x3 x4 p1_begun p1_position t_code t_nodes → G 0 0 58 [(0, .ref h_t), (1, .ref h_p1), (3, .int x3), (4, .int x4)] [] [(h_p1, .inr (7, [.ref h_p1_bytes, .int p1_length, .int p1_position, .int p1_begun, .int p1_wrong])), (h_p1_bytes, aI T 400 p1_bytes), (h_p2, .inr (5, [.int p2_size, .int p2_hasDark, .int p2_words, .int p2_ruleLines, .int p2_endLines, .int p2_most, .int p2_bannedCircles, .int p2_unlike, .int p2_patterns, .ref h_p2_patternNodes, .ref h_p2_patternCodes, .int p2_endsJoined, .int p2_fewestEdges, .int p2_mostEdges, .int p2_least])), (h_t, .inr (8, [.int t_nodes, .int t_code]))] := by
    intro x3 x4 p1_begun p1_position t_code t_nodes h
    unfold F_X9_readNet_58 at h
    have k82 : ∀ (x3 : Int32) (x4 : Int32) (p1_begun : Int32) (p1_position : Int32) (t_code : Int32) (t_nodes : Int32), F_X9_readNet_82 p1_length p1_bytes p2_hasDark p2_size post x3 x4 p1_begun p1_position t_code t_nodes → G 0 0 82 [(0, .ref h_t), (1, .ref h_p1), (3, .int x3), (4, .int x4)] [] [(h_p1, .inr (7, [.ref h_p1_bytes, .int p1_length, .int p1_position, .int p1_begun, .int p1_wrong])), (h_p1_bytes, aI T 400 p1_bytes), (h_p2, .inr (5, [.int p2_size, .int p2_hasDark, .int p2_words, .int p2_ruleLines, .int p2_endLines, .int p2_most, .int p2_bannedCircles, .int p2_unlike, .int p2_patterns, .ref h_p2_patternNodes, .ref h_p2_patternCodes, .int p2_endsJoined, .int p2_fewestEdges, .int p2_mostEdges, .int p2_least])), (h_t, .inr (8, [.int t_nodes, .int t_code]))] := by
      intro x3 x4 p1_begun p1_position t_code t_nodes h
      unfold F_X9_readNet_82 at h
      have k95 : ∀ (p1_begun : Int32) (p1_position : Int32) (t_code : Int32) (t_nodes : Int32), F_X9_readNet_95 p1_length p1_bytes p2_hasDark p2_size post p1_begun p1_position t_code t_nodes → G 0 0 95 [] [] [(h_p1, .inr (7, [.ref h_p1_bytes, .int p1_length, .int p1_position, .int p1_begun, .int p1_wrong])), (h_p1_bytes, aI T 400 p1_bytes), (h_p2, .inr (5, [.int p2_size, .int p2_hasDark, .int p2_words, .int p2_ruleLines, .int p2_endLines, .int p2_most, .int p2_bannedCircles, .int p2_unlike, .int p2_patterns, .ref h_p2_patternNodes, .ref h_p2_patternCodes, .int p2_endsJoined, .int p2_fewestEdges, .int p2_mostEdges, .int p2_least])), (h_t, .inr (8, [.int t_nodes, .int t_code]))] := by
        intro p1_begun p1_position t_code t_nodes h
        unfold F_X9_readNet_95 at h
        refine x_iconst (v := 0) X dX9_readNet_95 (by decide) ?_
        obtain ⟨hz, h⟩ := h
        exact hret _ _ _ _ dX9_readNet_96 (e_nz hz) ⟨p1_begun, p1_position, t_code, t_nodes, rfl, h⟩
      refine x_iload X dX9_readNet_82 3 rfl ?_
      refine x_iconst (v := -1) X dX9_readNet_84 (by decide) ?_
      refine x_icmp_eq (tgt := 95) X dX9_readNet_85 (by decide) (fun hc => ?_) (fun hc => ?_)
      · have h := h.1 hc
        exact x_sub X [] rfl (k95 p1_begun p1_position t_code t_nodes h)
      · have h := h.2 hc
        refine x_aload_n X dX9_readNet_88 1 rfl ?_
        refine x_callVI (av := []) (st := []) (wr := [(h_p2, .inr (5, [.int p2_size, .int p2_hasDark, .int p2_words, .int p2_ruleLines, .int p2_endLines, .int p2_most, .int p2_bannedCircles, .int p2_unlike, .int p2_patterns, .ref h_p2_patternNodes, .ref h_p2_patternCodes, .int p2_endsJoined, .int p2_fewestEdges, .int p2_mostEdges, .int p2_least])), (h_t, .inr (8, [.int t_nodes, .int t_code]))]) X (c_X8_goesOn l D T h_p1 h_p1_bytes p1_begun p1_length p1_position p1_wrong p1_bytes _ h) yk_X8_goesOn tw_696 dX9_readNet_89 0 rfl rfl [0, 1] [2, 3] rfl rfl rfl rfl (by decide) rfl rfl (Nat.le_of_ble_eq_true rfl) (Nat.le_of_ble_eq_true rfl) (Nat.le_of_ble_eq_true rfl) (Nat.zero_le _) (Nat.zero_le _) (fun r89 w1 hw => ?_)
        obtain ⟨p1_begun_89, p1_position_89, rfl, h⟩ := hw
        refine x_perm (ws2 := [(h_p1, .inr (7, [.ref h_p1_bytes, .int p1_length, .int p1_position_89, .int p1_begun_89, .int p1_wrong])), (h_p1_bytes, aI T 400 p1_bytes), (h_p2, .inr (5, [.int p2_size, .int p2_hasDark, .int p2_words, .int p2_ruleLines, .int p2_endLines, .int p2_most, .int p2_bannedCircles, .int p2_unlike, .int p2_patterns, .ref h_p2_patternNodes, .ref h_p2_patternCodes, .int p2_endsJoined, .int p2_fewestEdges, .int p2_mostEdges, .int p2_least])), (h_t, .inr (8, [.int t_nodes, .int t_code]))]) X [2, 3, 0, 1] rfl rfl ?_
        refine x_if_eq (tgt := 97) X dX9_readNet_92 (by decide) (fun hc => ?_) (fun hc => ?_)
        · have h := h.1 hc
          refine x_aload_n X dX9_readNet_97 0 rfl ?_
          refine x_iload_n X dX9_readNet_98 2 rfl ?_
          refine x_put (ws' := [(h_p1, .inr (7, [.ref h_p1_bytes, .int p1_length, .int p1_position_89, .int p1_begun_89, .int p1_wrong])), (h_p1_bytes, aI T 400 p1_bytes), (h_p2, .inr (5, [.int p2_size, .int p2_hasDark, .int p2_words, .int p2_ruleLines, .int p2_endLines, .int p2_most, .int p2_bannedCircles, .int p2_unlike, .int p2_patterns, .ref h_p2_patternNodes, .ref h_p2_patternCodes, .int p2_endsJoined, .int p2_fewestEdges, .int p2_mostEdges, .int p2_least])), (h_t, .inr (8, [.int x3, .int t_code]))]) X inGX9 tyX9_ok nmX9 0 (by decide) rfl tw_177 dX9_readNet_99 rfl rfl 3 rfl rfl rfl (Nat.le_of_ble_eq_true rfl) rfl ?_
          refine x_aload_n X dX9_readNet_102 0 rfl ?_
          refine x_iload X dX9_readNet_103 3 rfl ?_
          refine x_put (ws' := [(h_p1, .inr (7, [.ref h_p1_bytes, .int p1_length, .int p1_position_89, .int p1_begun_89, .int p1_wrong])), (h_p1_bytes, aI T 400 p1_bytes), (h_p2, .inr (5, [.int p2_size, .int p2_hasDark, .int p2_words, .int p2_ruleLines, .int p2_endLines, .int p2_most, .int p2_bannedCircles, .int p2_unlike, .int p2_patterns, .ref h_p2_patternNodes, .ref h_p2_patternCodes, .int p2_endsJoined, .int p2_fewestEdges, .int p2_mostEdges, .int p2_least])), (h_t, .inr (8, [.int x3, .int x4]))]) X inGX9 tyX9_ok nmX9 1 (by decide) rfl tw_179 dX9_readNet_105 rfl rfl 3 rfl rfl rfl (Nat.le_of_ble_eq_true rfl) rfl ?_
          refine x_iconst (v := 1) X dX9_readNet_108 (by decide) ?_
          exact hret _ _ _ _ dX9_readNet_109 rfl ⟨p1_begun_89, p1_position_89, x4, x3, rfl, h⟩
        · have h := h.2 hc
          exact x_sub X [] rfl (k95 p1_begun_89 p1_position_89 t_code t_nodes h)
    refine x_iload X dX9_readNet_58 3 rfl ?_
    refine x_iconst (v := -1) X dX9_readNet_60 (by decide) ?_
    refine x_icmp_eq (tgt := 82) X dX9_readNet_61 (by decide) (fun hc => ?_) (fun hc => ?_)
    · have h := h.1 hc
      exact x_sub X [0, 1, 2, 3] rfl (k82 x3 x4 p1_begun p1_position t_code t_nodes h)
    · have h := h.2 hc
      refine x_aload_n X dX9_readNet_64 1 rfl ?_
      refine x_bipush (v := 58) X dX9_readNet_65 (by decide) ?_
      refine x_callVI (av := [.int (58 : Int32)]) (st := []) (wr := [(h_p2, .inr (5, [.int p2_size, .int p2_hasDark, .int p2_words, .int p2_ruleLines, .int p2_endLines, .int p2_most, .int p2_bannedCircles, .int p2_unlike, .int p2_patterns, .ref h_p2_patternNodes, .ref h_p2_patternCodes, .int p2_endsJoined, .int p2_fewestEdges, .int p2_mostEdges, .int p2_least])), (h_t, .inr (8, [.int t_nodes, .int t_code]))]) X (c_X8_takesSign l D T h_p1 h_p1_bytes p1_begun p1_length p1_position p1_wrong p1_bytes (58 : Int32) _ h) yk_X8_takesSign tw_700 dX9_readNet_67 0 rfl rfl [0, 1] [2, 3] rfl rfl rfl rfl (by decide) rfl rfl (Nat.le_of_ble_eq_true rfl) (Nat.le_of_ble_eq_true rfl) (Nat.le_of_ble_eq_true rfl) (Nat.zero_le _) (Nat.zero_le _) (fun r67 w1 hw => ?_)
      obtain ⟨p1_begun_67, p1_position_67, rfl, h⟩ := hw
      refine x_perm (ws2 := [(h_p1, .inr (7, [.ref h_p1_bytes, .int p1_length, .int p1_position_67, .int p1_begun_67, .int p1_wrong])), (h_p1_bytes, aI T 400 p1_bytes), (h_p2, .inr (5, [.int p2_size, .int p2_hasDark, .int p2_words, .int p2_ruleLines, .int p2_endLines, .int p2_most, .int p2_bannedCircles, .int p2_unlike, .int p2_patterns, .ref h_p2_patternNodes, .ref h_p2_patternCodes, .int p2_endsJoined, .int p2_fewestEdges, .int p2_mostEdges, .int p2_least])), (h_t, .inr (8, [.int t_nodes, .int t_code]))]) X [2, 3, 0, 1] rfl rfl ?_
      refine x_if_eq (tgt := 82) X dX9_readNet_70 (by decide) (fun hc => ?_) (fun hc => ?_)
      · have h := h.1 hc
        exact x_sub X [0, 1, 2, 3] rfl (k82 x3 x4 p1_begun_67 p1_position_67 t_code t_nodes h)
      · have h := h.2 hc
        refine x_aload_n X dX9_readNet_73 1 rfl ?_
        refine x_iload_n X dX9_readNet_74 2 rfl ?_
        refine x_iload X dX9_readNet_75 3 rfl ?_
        refine x_callSI (av := [.ref h_p1, .int x3, .int x4]) (st := []) (wr := [(h_p2, .inr (5, [.int p2_size, .int p2_hasDark, .int p2_words, .int p2_ruleLines, .int p2_endLines, .int p2_most, .int p2_bannedCircles, .int p2_unlike, .int p2_patterns, .ref h_p2_patternNodes, .ref h_p2_patternCodes, .int p2_endsJoined, .int p2_fewestEdges, .int p2_mostEdges, .int p2_least])), (h_t, .inr (8, [.int t_nodes, .int t_code]))]) X (c_X9_readEdges l D T h_p1 h_p1_bytes p1_begun_67 p1_length p1_position_67 p1_wrong p1_bytes x3 x4 _ h) yk_X9_readEdges tw_730 dX9_readNet_77 [0, 1] [2, 3] rfl rfl rfl rfl (by decide) rfl rfl (Nat.le_of_ble_eq_true rfl) (Nat.le_of_ble_eq_true rfl) (Nat.le_of_ble_eq_true rfl) (Nat.zero_le _) (Nat.zero_le _) (fun r77 w1 hw => ?_)
        obtain ⟨p1_begun_77, p1_position_77, rfl, h⟩ := hw
        refine x_perm (ws2 := [(h_p1, .inr (7, [.ref h_p1_bytes, .int p1_length, .int p1_position_77, .int p1_begun_77, .int p1_wrong])), (h_p1_bytes, aI T 400 p1_bytes), (h_p2, .inr (5, [.int p2_size, .int p2_hasDark, .int p2_words, .int p2_ruleLines, .int p2_endLines, .int p2_most, .int p2_bannedCircles, .int p2_unlike, .int p2_patterns, .ref h_p2_patternNodes, .ref h_p2_patternCodes, .int p2_endsJoined, .int p2_fewestEdges, .int p2_mostEdges, .int p2_least])), (h_t, .inr (8, [.int t_nodes, .int t_code]))]) X [2, 3, 0, 1] rfl rfl ?_
        refine x_istore (lv' := [(4, .int r77), (0, .ref h_t), (1, .ref h_p1), (3, .int x3)]) X dX9_readNet_80 (by decide) rfl ?_
        exact x_sub X [1, 2, 3, 0] rfl (k82 x3 r77 p1_begun_77 p1_position_77 t_code t_nodes h)
  have k56 : ∀ (x3 : Int32) (s0 : Int32) (p1_begun : Int32) (p1_position : Int32) (t_code : Int32) (t_nodes : Int32), F_X9_readNet_56 p1_length p1_bytes p2_hasDark p2_size post (fun x3 x4 p1_begun p1_position t_code t_nodes => F_X9_readNet_58 p1_length p1_bytes p2_hasDark p2_size post x3 x4 p1_begun p1_position t_code t_nodes) x3 s0 p1_begun p1_position t_code t_nodes → G 0 0 56 [(0, .ref h_t), (1, .ref h_p1), (3, .int x3)] [.int s0] [(h_p1, .inr (7, [.ref h_p1_bytes, .int p1_length, .int p1_position, .int p1_begun, .int p1_wrong])), (h_p1_bytes, aI T 400 p1_bytes), (h_p2, .inr (5, [.int p2_size, .int p2_hasDark, .int p2_words, .int p2_ruleLines, .int p2_endLines, .int p2_most, .int p2_bannedCircles, .int p2_unlike, .int p2_patterns, .ref h_p2_patternNodes, .ref h_p2_patternCodes, .int p2_endsJoined, .int p2_fewestEdges, .int p2_mostEdges, .int p2_least])), (h_t, .inr (8, [.int t_nodes, .int t_code]))] := by
    intro x3 s0 p1_begun p1_position t_code t_nodes h
    unfold F_X9_readNet_56 at h
    refine x_istore (lv' := [(4, .int s0), (0, .ref h_t), (1, .ref h_p1), (3, .int x3)]) X dX9_readNet_56 (by decide) rfl ?_
    exact x_sub X [1, 2, 3, 0] rfl (k58 x3 s0 p1_begun p1_position t_code t_nodes h)
  refine x_aload_n X dX9_readNet_0 1 rfl ?_
  refine x_ldcS X 14 (by decide) rfl rfl dX9_readNet_1 ?_
  refine x_callVI (av := [.ref (D.2.1 14)]) (st := []) (wr := [(h_p2, .inr (5, [.int p2_size, .int p2_hasDark, .int p2_words, .int p2_ruleLines, .int p2_endLines, .int p2_most, .int p2_bannedCircles, .int p2_unlike, .int p2_patterns, .ref h_p2_patternNodes, .ref h_p2_patternCodes, .int p2_endsJoined, .int p2_fewestEdges, .int p2_mostEdges, .int p2_least])), (h_t, .inr (8, [.int t_nodes, .int t_code]))]) X (c_X8_takesWord l D T h_p1 h_p1_bytes p1_begun p1_length p1_position p1_wrong p1_bytes 14 _ h) yk_X8_takesWord tw_623 dX9_readNet_3 0 rfl rfl [0, 1] [2, 3] rfl rfl rfl rfl (by decide) rfl rfl (Nat.le_of_ble_eq_true rfl) (Nat.le_of_ble_eq_true rfl) (Nat.le_of_ble_eq_true rfl) (Nat.zero_le _) (Nat.zero_le _) (fun r3 w1 hw => ?_)
  obtain ⟨p1_begun_3, p1_position_3, rfl, h⟩ := hw
  refine x_perm (ws2 := [(h_p1, .inr (7, [.ref h_p1_bytes, .int p1_length, .int p1_position_3, .int p1_begun_3, .int p1_wrong])), (h_p1_bytes, aI T 400 p1_bytes), (h_p2, .inr (5, [.int p2_size, .int p2_hasDark, .int p2_words, .int p2_ruleLines, .int p2_endLines, .int p2_most, .int p2_bannedCircles, .int p2_unlike, .int p2_patterns, .ref h_p2_patternNodes, .ref h_p2_patternCodes, .int p2_endsJoined, .int p2_fewestEdges, .int p2_mostEdges, .int p2_least])), (h_t, .inr (8, [.int t_nodes, .int t_code]))]) X [2, 3, 0, 1] rfl rfl ?_
  refine x_if_ne (tgt := 11) X dX9_readNet_6 (by decide) (fun hc => ?_) (fun hc => ?_)
  · have h := h.1 hc
    refine x_aload_n X dX9_readNet_11 1 rfl ?_
    refine x_iconst (v := 1) X dX9_readNet_12 (by decide) ?_
    refine x_aload_n X dX9_readNet_13 2 rfl ?_
    refine x_getN X inGX6 0 (by decide) rfl tw_73 dX9_readNet_14 rfl 2 rfl rfl ?_
    refine x_callVI (av := [.int (1 : Int32), .int p2_size]) (st := []) (wr := [(h_p2, .inr (5, [.int p2_size, .int p2_hasDark, .int p2_words, .int p2_ruleLines, .int p2_endLines, .int p2_most, .int p2_bannedCircles, .int p2_unlike, .int p2_patterns, .ref h_p2_patternNodes, .ref h_p2_patternCodes, .int p2_endsJoined, .int p2_fewestEdges, .int p2_mostEdges, .int p2_least])), (h_t, .inr (8, [.int t_nodes, .int t_code]))]) X (c_X8_takeNumber l D T h_p1 h_p1_bytes p1_begun_3 p1_length p1_position_3 p1_wrong p1_bytes (1 : Int32) p2_size _ h) yk_X8_takeNumber tw_687 dX9_readNet_17 0 rfl rfl [0, 1] [2, 3] rfl rfl rfl rfl (by decide) rfl rfl (Nat.le_of_ble_eq_true rfl) (Nat.le_of_ble_eq_true rfl) (Nat.le_of_ble_eq_true rfl) (Nat.zero_le _) (Nat.zero_le _) (fun r17 w1 hw => ?_)
    obtain ⟨p1_begun_17, p1_position_17, rfl, h⟩ := hw
    refine x_perm (ws2 := [(h_p1, .inr (7, [.ref h_p1_bytes, .int p1_length, .int p1_position_17, .int p1_begun_17, .int p1_wrong])), (h_p1_bytes, aI T 400 p1_bytes), (h_p2, .inr (5, [.int p2_size, .int p2_hasDark, .int p2_words, .int p2_ruleLines, .int p2_endLines, .int p2_most, .int p2_bannedCircles, .int p2_unlike, .int p2_patterns, .ref h_p2_patternNodes, .ref h_p2_patternCodes, .int p2_endsJoined, .int p2_fewestEdges, .int p2_mostEdges, .int p2_least])), (h_t, .inr (8, [.int t_nodes, .int t_code]))]) X [2, 3, 0, 1] rfl rfl ?_
    refine x_istore_n (lv' := [(3, .int r17), (0, .ref h_t), (1, .ref h_p1), (2, .ref h_p2)]) X dX9_readNet_20 (by decide) rfl ?_
    refine x_iload_n X dX9_readNet_21 0 rfl ?_
    refine x_iconst (v := -1) X dX9_readNet_22 (by decide) ?_
    refine x_icmp_ne (tgt := 28) X dX9_readNet_23 (by decide) (fun hc => ?_) (fun hc => ?_)
    · have h := h.1 hc
      refine x_iconst (v := 0) X dX9_readNet_28 (by decide) ?_
      refine x_istore (lv' := [(4, .int (0 : Int32)), (3, .int r17), (0, .ref h_t), (1, .ref h_p1), (2, .ref h_p2)]) X dX9_readNet_29 (by decide) rfl ?_
      refine x_aload_n X dX9_readNet_31 3 rfl ?_
      refine x_ldcS X 1 (by decide) rfl rfl dX9_readNet_32 ?_
      refine x_callVI (av := [.ref (D.2.1 1)]) (st := []) (wr := [(h_p2, .inr (5, [.int p2_size, .int p2_hasDark, .int p2_words, .int p2_ruleLines, .int p2_endLines, .int p2_most, .int p2_bannedCircles, .int p2_unlike, .int p2_patterns, .ref h_p2_patternNodes, .ref h_p2_patternCodes, .int p2_endsJoined, .int p2_fewestEdges, .int p2_mostEdges, .int p2_least])), (h_t, .inr (8, [.int t_nodes, .int t_code]))]) X (c_X8_takesWord l D T h_p1 h_p1_bytes p1_begun_17 p1_length p1_position_17 p1_wrong p1_bytes 1 _ h) yk_X8_takesWord tw_623 dX9_readNet_34 0 rfl rfl [0, 1] [2, 3] rfl rfl rfl rfl (by decide) rfl rfl (Nat.le_of_ble_eq_true rfl) (Nat.le_of_ble_eq_true rfl) (Nat.le_of_ble_eq_true rfl) (Nat.zero_le _) (Nat.zero_le _) (fun r34 w1 hw => ?_)
      obtain ⟨p1_begun_34, p1_position_34, rfl, h⟩ := hw
      refine x_perm (ws2 := [(h_p1, .inr (7, [.ref h_p1_bytes, .int p1_length, .int p1_position_34, .int p1_begun_34, .int p1_wrong])), (h_p1_bytes, aI T 400 p1_bytes), (h_p2, .inr (5, [.int p2_size, .int p2_hasDark, .int p2_words, .int p2_ruleLines, .int p2_endLines, .int p2_most, .int p2_bannedCircles, .int p2_unlike, .int p2_patterns, .ref h_p2_patternNodes, .ref h_p2_patternCodes, .int p2_endsJoined, .int p2_fewestEdges, .int p2_mostEdges, .int p2_least])), (h_t, .inr (8, [.int t_nodes, .int t_code]))]) X [2, 3, 0, 1] rfl rfl ?_
      refine x_if_eq (tgt := 58) X dX9_readNet_37 (by decide) (fun hc => ?_) (fun hc => ?_)
      · have h := h.1 hc
        exact x_sub X [2, 3, 1, 0] rfl (k58 r17 (0 : Int32) p1_begun_34 p1_position_34 t_code t_nodes h)
      · have h := h.2 hc
        refine x_aload_n X dX9_readNet_40 4 rfl ?_
        refine x_getN X inGX6 1 (by decide) rfl tw_77 dX9_readNet_41 rfl 2 rfl rfl ?_
        refine x_if_eq (tgt := 55) X dX9_readNet_44 (by decide) (fun hc => ?_) (fun hc => ?_)
        · have h := h.1 hc
          refine x_iconst (v := -1) X dX9_readNet_55 (by decide) ?_
          exact x_sub X [2, 3, 1] rfl (k56 r17 (-1 : Int32) p1_begun_34 p1_position_34 t_code t_nodes h)
        · have h := h.2 hc
          refine x_aload_n X dX9_readNet_47 3 rfl ?_
          refine x_iload_n X dX9_readNet_48 1 rfl ?_
          refine x_callSI (av := [.ref h_p1, .int r17]) (st := []) (wr := [(h_p2, .inr (5, [.int p2_size, .int p2_hasDark, .int p2_words, .int p2_ruleLines, .int p2_endLines, .int p2_most, .int p2_bannedCircles, .int p2_unlike, .int p2_patterns, .ref h_p2_patternNodes, .ref h_p2_patternCodes, .int p2_endsJoined, .int p2_fewestEdges, .int p2_mostEdges, .int p2_least])), (h_t, .inr (8, [.int t_nodes, .int t_code]))]) X (c_X9_readColours l D T h_p1 h_p1_bytes p1_begun_34 p1_length p1_position_34 p1_wrong p1_bytes r17 _ h) yk_X9_readColours tw_853 dX9_readNet_49 [0, 1] [2, 3] rfl rfl rfl rfl (by decide) rfl rfl (Nat.le_of_ble_eq_true rfl) (Nat.le_of_ble_eq_true rfl) (Nat.le_of_ble_eq_true rfl) (Nat.zero_le _) (Nat.zero_le _) (fun r49 w1 hw => ?_)
          obtain ⟨p1_begun_49, p1_position_49, rfl, h⟩ := hw
          refine x_perm (ws2 := [(h_p1, .inr (7, [.ref h_p1_bytes, .int p1_length, .int p1_position_49, .int p1_begun_49, .int p1_wrong])), (h_p1_bytes, aI T 400 p1_bytes), (h_p2, .inr (5, [.int p2_size, .int p2_hasDark, .int p2_words, .int p2_ruleLines, .int p2_endLines, .int p2_most, .int p2_bannedCircles, .int p2_unlike, .int p2_patterns, .ref h_p2_patternNodes, .ref h_p2_patternCodes, .int p2_endsJoined, .int p2_fewestEdges, .int p2_mostEdges, .int p2_least])), (h_t, .inr (8, [.int t_nodes, .int t_code]))]) X [2, 3, 0, 1] rfl rfl ?_
          refine x_goto (tgt := 56) X dX9_readNet_52 (by decide) ?_
          exact x_sub X [2, 3, 1] rfl (k56 r17 r49 p1_begun_49 p1_position_49 t_code t_nodes h)
    · have h := h.2 hc
      refine x_iconst (v := 0) X dX9_readNet_26 (by decide) ?_
      obtain ⟨hz, h⟩ := h
      exact hret _ _ _ _ dX9_readNet_27 (e_nz hz) ⟨p1_begun_17, p1_position_17, t_code, t_nodes, rfl, h⟩
  · have h := h.2 hc
    refine x_iconst (v := 0) X dX9_readNet_9 (by decide) ?_
    obtain ⟨hz, h⟩ := h
    exact hret _ _ _ _ dX9_readNet_10 (e_nz hz) ⟨p1_begun_3, p1_position_3, t_code, t_nodes, rfl, h⟩
