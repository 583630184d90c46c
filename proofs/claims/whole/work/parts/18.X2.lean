/-! OrderlyNets$Forms: decode rows (printed), and each method kept by its F -/
theorem dX2_nodeAt_0 : decode cX2_nodeAt 0 = .ok (.lload_n 0, 1) := by decide +kernel
theorem dX2_nodeAt_1 : decode cX2_nodeAt 1 = .ok (.iconst 3, 1) := by decide +kernel
theorem dX2_nodeAt_2 : decode cX2_nodeAt 2 = .ok (.iload_n 2, 1) := by decide +kernel
theorem dX2_nodeAt_3 : decode cX2_nodeAt 3 = .ok (.imul, 1) := by decide +kernel
theorem dX2_nodeAt_4 : decode cX2_nodeAt 4 = .ok (.lshr, 1) := by decide +kernel
theorem dX2_nodeAt_5 : decode cX2_nodeAt 5 = .ok (.l2i, 1) := by decide +kernel
theorem dX2_nodeAt_6 : decode cX2_nodeAt 6 = .ok (.bipush 7, 2) := by decide +kernel
theorem dX2_nodeAt_8 : decode cX2_nodeAt 8 = .ok (.iand, 1) := by decide +kernel
theorem dX2_nodeAt_9 : decode cX2_nodeAt 9 = .ok (.ireturn, 1) := by decide +kernel
set_option maxHeartbeats 4000000 in
set_option maxRecDepth 100000 in
theorem c_X2_nodeAt (l : Launch) (D : va_G) (T : Nat → ClassId)  (p0 : Int64) (p1 : Int32) (post : Int32 → Prop) (h : F_X2_nodeAt p0 p1 post) : cI l D T yX2_nodeAt cX2_nodeAt 3 (some .int) 0 0 0 0 [.long p0, .int p1] [] (fun r w1 => w1 = [] ∧ post r ) := by
  refine xI_of (ty := .int) (by decide +kernel) (Nat.le_of_ble_eq_true rfl) rfl ?_
  intro G X hret
  change G 0 0 0 [(0, .long p0), (2, .int p1)] [] []
  unfold F_X2_nodeAt at h
  refine x_lload_n X dX2_nodeAt_0 0 rfl ?_
  refine x_iconst (v := 3) X dX2_nodeAt_1 (by decide) ?_
  refine x_iload_n X dX2_nodeAt_2 1 rfl ?_
  refine x_imul X dX2_nodeAt_3 ?_
  refine x_lshr X dX2_nodeAt_4 ?_
  refine x_l2i X dX2_nodeAt_5 ?_
  refine x_bipush (v := 7) X dX2_nodeAt_6 (by decide) ?_
  refine x_iand X dX2_nodeAt_8 ?_
  exact hret _ _ _ _ dX2_nodeAt_9 rfl ⟨rfl, h⟩
theorem dX2_begin_0 : decode cX2_begin 0 = .ok (.aload_n 0, 1) := by decide +kernel
theorem dX2_begin_1 : decode cX2_begin 1 = .ok (.getfield 10, 3) := by decide +kernel
theorem dX2_begin_4 : decode cX2_begin 4 = .ok (.iload_n 1, 1) := by decide +kernel
theorem dX2_begin_5 : decode cX2_begin 5 = .ok (.iload_n 2, 1) := by decide +kernel
theorem dX2_begin_6 : decode cX2_begin 6 = .ok (.invokevirtual 73, 3) := by decide +kernel
theorem dX2_begin_9 : decode cX2_begin 9 = .ok (.aload_n 0, 1) := by decide +kernel
theorem dX2_begin_10 : decode cX2_begin 10 = .ok (.aload_n 0, 1) := by decide +kernel
theorem dX2_begin_11 : decode cX2_begin 11 = .ok (.getfield 10, 3) := by decide +kernel
theorem dX2_begin_14 : decode cX2_begin 14 = .ok (.getfield 76, 3) := by decide +kernel
theorem dX2_begin_17 : decode cX2_begin 17 = .ok (.putfield 61, 3) := by decide +kernel
theorem dX2_begin_20 : decode cX2_begin 20 = .ok (.aload_n 0, 1) := by decide +kernel
theorem dX2_begin_21 : decode cX2_begin 21 = .ok (.aload_n 0, 1) := by decide +kernel
theorem dX2_begin_22 : decode cX2_begin 22 = .ok (.getfield 61, 3) := by decide +kernel
theorem dX2_begin_25 : decode cX2_begin 25 = .ok (.invokestatic 77, 3) := by decide +kernel
theorem dX2_begin_28 : decode cX2_begin 28 = .ok (.putfield 80, 3) := by decide +kernel
theorem dX2_begin_31 : decode cX2_begin 31 = .ok (.aload_n 0, 1) := by decide +kernel
theorem dX2_begin_32 : decode cX2_begin 32 = .ok (.iconst 0, 1) := by decide +kernel
theorem dX2_begin_33 : decode cX2_begin 33 = .ok (.putfield 20, 3) := by decide +kernel
theorem dX2_begin_36 : decode cX2_begin 36 = .ok (.aload_n 0, 1) := by decide +kernel
theorem dX2_begin_37 : decode cX2_begin 37 = .ok (.iconst 0, 1) := by decide +kernel
theorem dX2_begin_38 : decode cX2_begin 38 = .ok (.putfield 36, 3) := by decide +kernel
theorem dX2_begin_41 : decode cX2_begin 41 = .ok (.aload_n 0, 1) := by decide +kernel
theorem dX2_begin_42 : decode cX2_begin 42 = .ok (.iconst 0, 1) := by decide +kernel
theorem dX2_begin_43 : decode cX2_begin 43 = .ok (.putfield 83, 3) := by decide +kernel
theorem dX2_begin_46 : decode cX2_begin 46 = .ok (.aload_n 0, 1) := by decide +kernel
theorem dX2_begin_47 : decode cX2_begin 47 = .ok (.iconst 1, 1) := by decide +kernel
theorem dX2_begin_48 : decode cX2_begin 48 = .ok (.aload_n 0, 1) := by decide +kernel
theorem dX2_begin_49 : decode cX2_begin 49 = .ok (.getfield 80, 3) := by decide +kernel
theorem dX2_begin_52 : decode cX2_begin 52 = .ok (.ishl, 1) := by decide +kernel
theorem dX2_begin_53 : decode cX2_begin 53 = .ok (.iconst 1, 1) := by decide +kernel
theorem dX2_begin_54 : decode cX2_begin 54 = .ok (.isub, 1) := by decide +kernel
theorem dX2_begin_55 : decode cX2_begin 55 = .ok (.putfield 24, 3) := by decide +kernel
theorem dX2_begin_58 : decode cX2_begin 58 = .ok (.aload_n 0, 1) := by decide +kernel
theorem dX2_begin_59 : decode cX2_begin 59 = .ok (.iconst 0, 1) := by decide +kernel
theorem dX2_begin_60 : decode cX2_begin 60 = .ok (.putfield 43, 3) := by decide +kernel
theorem dX2_begin_63 : decode cX2_begin 63 = .ok (.return_, 1) := by decide +kernel
set_option maxHeartbeats 4000000 in
set_option maxRecDepth 100000 in
theorem c_X2_begin (l : Launch) (D : va_G) (T : Nat → ClassId) (h_t h_t_sketch h_t_sketch_near h_t_sketch_fans : Nat) (t_allBits : Int32) (t_firstOrder : Int64) (t_isBeaten : Int32) (t_isStudy : Int32) (t_isTest : Int32) (t_least : Int32) (t_nodes : Int32) (t_order : Int64) (t_seen : Int64) (t_stillEdges : Int32) (t_symmetries : Int32) (t_sketch_colours : Int64) (t_sketch_darks : Int32) (t_sketch_nodes : Int32) (t_sketch_fans : Nat → Int64) (t_sketch_near : Nat → Int32) (p1 : Int32) (p2 : Int32) (post : Int32 → Int32 → Int32 → Int32 → Int32 → Int32 → Int32 → Int64 → Int32 → Int32 → (Nat → Int64) → (Nat → Int32) → Prop) (h : F_X2_begin t_allBits t_isBeaten t_isStudy t_isTest t_least t_nodes t_symmetries t_sketch_colours t_sketch_darks t_sketch_nodes t_sketch_fans t_sketch_near p1 p2 post) : cV l D T yX2_begin cX2_begin 3 none 2 76 0 0 [.ref h_t, .int p1, .int p2] [(h_t, .inr (1, [.ref h_t_sketch, .int t_nodes, .int t_allBits, .int t_isTest, .int t_isBeaten, .int t_isStudy, .long t_order, .int t_least, .int t_symmetries, .long t_firstOrder, .long t_seen, .int t_stillEdges])), (h_t_sketch, .inr (6, [.ref h_t_sketch_near, .ref h_t_sketch_fans, .int t_sketch_nodes, .int t_sketch_darks, .long t_sketch_colours])), (h_t_sketch_fans, aJ T 6 t_sketch_fans), (h_t_sketch_near, aI T 6 t_sketch_near)] (fun w1 => ∃ (t_allBits1 : Int32) (t_isBeaten1 : Int32) (t_isStudy1 : Int32) (t_isTest1 : Int32) (t_least1 : Int32) (t_nodes1 : Int32) (t_symmetries1 : Int32) (t_sketch_colours1 : Int64) (t_sketch_darks1 : Int32) (t_sketch_nodes1 : Int32) (t_sketch_fans1 : Nat → Int64) (t_sketch_near1 : Nat → Int32), w1 = [(h_t, .inr (1, [.ref h_t_sketch, .int t_nodes1, .int t_allBits1, .int t_isTest1, .int t_isBeaten1, .int t_isStudy1, .long t_order, .int t_least1, .int t_symmetries1, .long t_firstOrder, .long t_seen, .int t_stillEdges])), (h_t_sketch, .inr (6, [.ref h_t_sketch_near, .ref h_t_sketch_fans, .int t_sketch_nodes1, .int t_sketch_darks1, .long t_sketch_colours1])), (h_t_sketch_fans, aJ T 6 t_sketch_fans1), (h_t_sketch_near, aI T 6 t_sketch_near1)] ∧ post t_allBits1 t_isBeaten1 t_isStudy1 t_isTest1 t_least1 t_nodes1 t_symmetries1 t_sketch_colours1 t_sketch_darks1 t_sketch_nodes1 t_sketch_fans1 t_sketch_near1) := by
  refine xV_of (by decide +kernel) (Nat.le_of_ble_eq_true rfl) rfl ?_
  intro G X hret
  change G 0 0 0 [(0, .ref h_t), (1, .int p1), (2, .int p2)] [] [(h_t, .inr (1, [.ref h_t_sketch, .int t_nodes, .int t_allBits, .int t_isTest, .int t_isBeaten, .int t_isStudy, .long t_order, .int t_least, .int t_symmetries, .long t_firstOrder, .long t_seen, .int t_stillEdges])), (h_t_sketch, .inr (6, [.ref h_t_sketch_near, .ref h_t_sketch_fans, .int t_sketch_nodes, .int t_sketch_darks, .long t_sketch_colours])), (h_t_sketch_fans, aJ T 6 t_sketch_fans), (h_t_sketch_near, aI T 6 t_sketch_near)]
  unfold F_X2_begin at h
  refine x_aload_n X dX2_begin_0 0 rfl ?_
  refine x_get X inGX2 0 (by decide) rfl tw_233 dX2_begin_1 rfl 0 rfl rfl ?_
  refine x_iload_n X dX2_begin_4 1 rfl ?_
  refine x_iload_n X dX2_begin_5 2 rfl ?_
  refine x_callVV (av := [.int p1, .int p2]) (st := []) (wr := [(h_t, .inr (1, [.ref h_t_sketch, .int t_nodes, .int t_allBits, .int t_isTest, .int t_isBeaten, .int t_isStudy, .long t_order, .int t_least, .int t_symmetries, .long t_firstOrder, .long t_seen, .int t_stillEdges]))]) X (c_X7_draw l D T h_t_sketch h_t_sketch_near h_t_sketch_fans t_sketch_colours t_sketch_darks t_sketch_nodes t_sketch_fans t_sketch_near p1 p2 _ h) yk_X7_draw tw_348 dX2_begin_6 1 rfl rfl [1, 2, 3] [0] rfl rfl rfl rfl (by decide) rfl rfl (Nat.le_of_ble_eq_true rfl) (Nat.le_of_ble_eq_true rfl) (Nat.le_of_ble_eq_true rfl) (Nat.zero_le _) (Nat.zero_le _) (fun w1 hw => ?_)
  obtain ⟨t_sketch_colours_6, t_sketch_darks_6, t_sketch_nodes_6, t_sketch_fans_6, t_sketch_near_6, rfl, h⟩ := hw
  refine x_perm (ws2 := [(h_t, .inr (1, [.ref h_t_sketch, .int t_nodes, .int t_allBits, .int t_isTest, .int t_isBeaten, .int t_isStudy, .long t_order, .int t_least, .int t_symmetries, .long t_firstOrder, .long t_seen, .int t_stillEdges])), (h_t_sketch, .inr (6, [.ref h_t_sketch_near, .ref h_t_sketch_fans, .int t_sketch_nodes_6, .int t_sketch_darks_6, .long t_sketch_colours_6])), (h_t_sketch_fans, aJ T 6 t_sketch_fans_6), (h_t_sketch_near, aI T 6 t_sketch_near_6)]) X [0, 1, 2, 3] rfl rfl ?_
  refine x_aload_n X dX2_begin_9 0 rfl ?_
  refine x_aload_n X dX2_begin_10 0 rfl ?_
  refine x_get X inGX2 0 (by decide) rfl tw_233 dX2_begin_11 rfl 0 rfl rfl ?_
  refine x_getN X inGX7 2 (by decide) rfl tw_215 dX2_begin_14 rfl 1 rfl rfl ?_
  refine x_put (ws' := [(h_t, .inr (1, [.ref h_t_sketch, .int t_sketch_nodes_6, .int t_allBits, .int t_isTest, .int t_isBeaten, .int t_isStudy, .long t_order, .int t_least, .int t_symmetries, .long t_firstOrder, .long t_seen, .int t_stillEdges])), (h_t_sketch, .inr (6, [.ref h_t_sketch_near, .ref h_t_sketch_fans, .int t_sketch_nodes_6, .int t_sketch_darks_6, .long t_sketch_colours_6])), (h_t_sketch_fans, aJ T 6 t_sketch_fans_6), (h_t_sketch_near, aI T 6 t_sketch_near_6)]) X inGX2 tyX2_ok nmX2 1 (by decide) rfl tw_234 dX2_begin_17 rfl rfl 0 rfl rfl rfl (Nat.le_of_ble_eq_true rfl) rfl ?_
  refine x_aload_n X dX2_begin_20 0 rfl ?_
  refine x_aload_n X dX2_begin_21 0 rfl ?_
  refine x_get X inGX2 1 (by decide) rfl tw_234 dX2_begin_22 rfl 0 rfl rfl ?_
  refine x_callSI (av := [.int t_sketch_nodes_6]) (st := [.ref h_t]) (wr := [(h_t, .inr (1, [.ref h_t_sketch, .int t_sketch_nodes_6, .int t_allBits, .int t_isTest, .int t_isBeaten, .int t_isStudy, .long t_order, .int t_least, .int t_symmetries, .long t_firstOrder, .long t_seen, .int t_stillEdges])), (h_t_sketch, .inr (6, [.ref h_t_sketch_near, .ref h_t_sketch_fans, .int t_sketch_nodes_6, .int t_sketch_darks_6, .long t_sketch_colours_6])), (h_t_sketch_fans, aJ T 6 t_sketch_fans_6), (h_t_sketch_near, aI T 6 t_sketch_near_6)]) X (c_X0_bits l D T t_sketch_nodes_6 _ h) yk_X0_bits tw_362 dX2_begin_25 [] [0, 1, 2, 3] rfl rfl rfl rfl (by decide) rfl rfl (Nat.le_of_ble_eq_true rfl) (Nat.le_of_ble_eq_true rfl) (Nat.le_of_ble_eq_true rfl) (Nat.zero_le _) (Nat.zero_le _) (fun r25 w1 hw => ?_)
  obtain ⟨rfl, h⟩ := hw
  refine x_perm (ws2 := [(h_t, .inr (1, [.ref h_t_sketch, .int t_sketch_nodes_6, .int t_allBits, .int t_isTest, .int t_isBeaten, .int t_isStudy, .long t_order, .int t_least, .int t_symmetries, .long t_firstOrder, .long t_seen, .int t_stillEdges])), (h_t_sketch, .inr (6, [.ref h_t_sketch_near, .ref h_t_sketch_fans, .int t_sketch_nodes_6, .int t_sketch_darks_6, .long t_sketch_colours_6])), (h_t_sketch_fans, aJ T 6 t_sketch_fans_6), (h_t_sketch_near, aI T 6 t_sketch_near_6)]) X [0, 1, 2, 3] rfl rfl ?_
  refine x_put (ws' := [(h_t, .inr (1, [.ref h_t_sketch, .int t_sketch_nodes_6, .int r25, .int t_isTest, .int t_isBeaten, .int t_isStudy, .long t_order, .int t_least, .int t_symmetries, .long t_firstOrder, .long t_seen, .int t_stillEdges])), (h_t_sketch, .inr (6, [.ref h_t_sketch_near, .ref h_t_sketch_fans, .int t_sketch_nodes_6, .int t_sketch_darks_6, .long t_sketch_colours_6])), (h_t_sketch_fans, aJ T 6 t_sketch_fans_6), (h_t_sketch_near, aI T 6 t_sketch_near_6)]) X inGX2 tyX2_ok nmX2 2 (by decide) rfl tw_236 dX2_begin_28 rfl rfl 0 rfl rfl rfl (Nat.le_of_ble_eq_true rfl) rfl ?_
  refine x_aload_n X dX2_begin_31 0 rfl ?_
  refine x_iconst (v := 0) X dX2_begin_32 (by decide) ?_
  obtain ⟨hz, h⟩ := h
  refine x_put (ws' := [(h_t, .inr (1, [.ref h_t_sketch, .int t_sketch_nodes_6, .int r25, .int (0 : Int32), .int t_isBeaten, .int t_isStudy, .long t_order, .int t_least, .int t_symmetries, .long t_firstOrder, .long t_seen, .int t_stillEdges])), (h_t_sketch, .inr (6, [.ref h_t_sketch_near, .ref h_t_sketch_fans, .int t_sketch_nodes_6, .int t_sketch_darks_6, .long t_sketch_colours_6])), (h_t_sketch_fans, aJ T 6 t_sketch_fans_6), (h_t_sketch_near, aI T 6 t_sketch_near_6)]) X inGX2 tyX2_ok nmX2 3 (by decide) rfl tw_237 dX2_begin_33 rfl rfl 0 rfl (e_nz hz) (e_fz hz) (Nat.le_of_ble_eq_true rfl) rfl ?_
  refine x_aload_n X dX2_begin_36 0 rfl ?_
  refine x_iconst (v := 0) X dX2_begin_37 (by decide) ?_
  obtain ⟨hz, h⟩ := h
  refine x_put (ws' := [(h_t, .inr (1, [.ref h_t_sketch, .int t_sketch_nodes_6, .int r25, .int (0 : Int32), .int (0 : Int32), .int t_isStudy, .long t_order, .int t_least, .int t_symmetries, .long t_firstOrder, .long t_seen, .int t_stillEdges])), (h_t_sketch, .inr (6, [.ref h_t_sketch_near, .ref h_t_sketch_fans, .int t_sketch_nodes_6, .int t_sketch_darks_6, .long t_sketch_colours_6])), (h_t_sketch_fans, aJ T 6 t_sketch_fans_6), (h_t_sketch_near, aI T 6 t_sketch_near_6)]) X inGX2 tyX2_ok nmX2 4 (by decide) rfl tw_238 dX2_begin_38 rfl rfl 0 rfl (e_nz hz) (e_fz hz) (Nat.le_of_ble_eq_true rfl) rfl ?_
  refine x_aload_n X dX2_begin_41 0 rfl ?_
  refine x_iconst (v := 0) X dX2_begin_42 (by decide) ?_
  obtain ⟨hz, h⟩ := h
  refine x_put (ws' := [(h_t, .inr (1, [.ref h_t_sketch, .int t_sketch_nodes_6, .int r25, .int (0 : Int32), .int (0 : Int32), .int (0 : Int32), .long t_order, .int t_least, .int t_symmetries, .long t_firstOrder, .long t_seen, .int t_stillEdges])), (h_t_sketch, .inr (6, [.ref h_t_sketch_near, .ref h_t_sketch_fans, .int t_sketch_nodes_6, .int t_sketch_darks_6, .long t_sketch_colours_6])), (h_t_sketch_fans, aJ T 6 t_sketch_fans_6), (h_t_sketch_near, aI T 6 t_sketch_near_6)]) X inGX2 tyX2_ok nmX2 5 (by decide) rfl tw_239 dX2_begin_43 rfl rfl 0 rfl (e_nz hz) (e_fz hz) (Nat.le_of_ble_eq_true rfl) rfl ?_
  refine x_aload_n X dX2_begin_46 0 rfl ?_
  refine x_iconst (v := 1) X dX2_begin_47 (by decide) ?_
  refine x_aload_n X dX2_begin_48 0 rfl ?_
  refine x_get X inGX2 2 (by decide) rfl tw_236 dX2_begin_49 rfl 0 rfl rfl ?_
  refine x_ishl X dX2_begin_52 ?_
  refine x_iconst (v := 1) X dX2_begin_53 (by decide) ?_
  refine x_isub X dX2_begin_54 ?_
  refine x_put (ws' := [(h_t, .inr (1, [.ref h_t_sketch, .int t_sketch_nodes_6, .int r25, .int (0 : Int32), .int (0 : Int32), .int (0 : Int32), .long t_order, .int (((1 : Int32) <<< (r25 &&& 31)) - (1 : Int32)), .int t_symmetries, .long t_firstOrder, .long t_seen, .int t_stillEdges])), (h_t_sketch, .inr (6, [.ref h_t_sketch_near, .ref h_t_sketch_fans, .int t_sketch_nodes_6, .int t_sketch_darks_6, .long t_sketch_colours_6])), (h_t_sketch_fans, aJ T 6 t_sketch_fans_6), (h_t_sketch_near, aI T 6 t_sketch_near_6)]) X inGX2 tyX2_ok nmX2 7 (by decide) rfl tw_241 dX2_begin_55 rfl rfl 0 rfl rfl rfl (Nat.le_of_ble_eq_true rfl) rfl ?_
  refine x_aload_n X dX2_begin_58 0 rfl ?_
  refine x_iconst (v := 0) X dX2_begin_59 (by decide) ?_
  refine x_put (ws' := [(h_t, .inr (1, [.ref h_t_sketch, .int t_sketch_nodes_6, .int r25, .int (0 : Int32), .int (0 : Int32), .int (0 : Int32), .long t_order, .int (((1 : Int32) <<< (r25 &&& 31)) - (1 : Int32)), .int (0 : Int32), .long t_firstOrder, .long t_seen, .int t_stillEdges])), (h_t_sketch, .inr (6, [.ref h_t_sketch_near, .ref h_t_sketch_fans, .int t_sketch_nodes_6, .int t_sketch_darks_6, .long t_sketch_colours_6])), (h_t_sketch_fans, aJ T 6 t_sketch_fans_6), (h_t_sketch_near, aI T 6 t_sketch_near_6)]) X inGX2 tyX2_ok nmX2 8 (by decide) rfl tw_243 dX2_begin_60 rfl rfl 0 rfl rfl rfl (Nat.le_of_ble_eq_true rfl) rfl ?_
  exact hret _ _ _ dX2_begin_63 ⟨r25, (0 : Int32), (0 : Int32), (0 : Int32), (((1 : Int32) <<< (r25 &&& 31)) - (1 : Int32)), t_sketch_nodes_6, (0 : Int32), t_sketch_colours_6, t_sketch_darks_6, t_sketch_nodes_6, t_sketch_fans_6, t_sketch_near_6, rfl, h⟩
theorem dX2_arrive_0 : decode cX2_arrive 0 = .ok (.iload_n 1, 1) := by decide +kernel
theorem dX2_arrive_1 : decode cX2_arrive 1 = .ok (.aload_n 0, 1) := by decide +kernel
theorem dX2_arrive_2 : decode cX2_arrive 2 = .ok (.getfield 24, 3) := by decide +kernel
theorem dX2_arrive_5 : decode cX2_arrive 5 = .ok (.if_icmp .lt 10, 3) := by decide +kernel
theorem dX2_arrive_8 : decode cX2_arrive 8 = .ok (.aload_n 0, 1) := by decide +kernel
theorem dX2_arrive_9 : decode cX2_arrive 9 = .ok (.getfield 43, 3) := by decide +kernel
theorem dX2_arrive_12 : decode cX2_arrive 12 = .ok (.ifCond .ne 31, 3) := by decide +kernel
theorem dX2_arrive_15 : decode cX2_arrive 15 = .ok (.aload_n 0, 1) := by decide +kernel
theorem dX2_arrive_16 : decode cX2_arrive 16 = .ok (.iload_n 1, 1) := by decide +kernel
theorem dX2_arrive_17 : decode cX2_arrive 17 = .ok (.putfield 24, 3) := by decide +kernel
theorem dX2_arrive_20 : decode cX2_arrive 20 = .ok (.aload_n 0, 1) := by decide +kernel
theorem dX2_arrive_21 : decode cX2_arrive 21 = .ok (.iconst 0, 1) := by decide +kernel
theorem dX2_arrive_22 : decode cX2_arrive 22 = .ok (.putfield 43, 3) := by decide +kernel
theorem dX2_arrive_25 : decode cX2_arrive 25 = .ok (.aload_n 0, 1) := by decide +kernel
theorem dX2_arrive_26 : decode cX2_arrive 26 = .ok (.aload_n 0, 1) := by decide +kernel
theorem dX2_arrive_27 : decode cX2_arrive 27 = .ok (.getfield 104, 3) := by decide +kernel
theorem dX2_arrive_30 : decode cX2_arrive 30 = .ok (.putfield 115, 3) := by decide +kernel
theorem dX2_arrive_33 : decode cX2_arrive 33 = .ok (.aload_n 0, 1) := by decide +kernel
theorem dX2_arrive_34 : decode cX2_arrive 34 = .ok (.lconst 0, 1) := by decide +kernel
theorem dX2_arrive_35 : decode cX2_arrive 35 = .ok (.putfield 86, 3) := by decide +kernel
theorem dX2_arrive_38 : decode cX2_arrive 38 = .ok (.aload_n 0, 1) := by decide +kernel
theorem dX2_arrive_39 : decode cX2_arrive 39 = .ok (.iconst 0, 1) := by decide +kernel
theorem dX2_arrive_40 : decode cX2_arrive 40 = .ok (.putfield 70, 3) := by decide +kernel
theorem dX2_arrive_43 : decode cX2_arrive 43 = .ok (.aload_n 0, 1) := by decide +kernel
theorem dX2_arrive_44 : decode cX2_arrive 44 = .ok (.dup, 1) := by decide +kernel
theorem dX2_arrive_45 : decode cX2_arrive 45 = .ok (.getfield 43, 3) := by decide +kernel
theorem dX2_arrive_48 : decode cX2_arrive 48 = .ok (.iconst 1, 1) := by decide +kernel
theorem dX2_arrive_49 : decode cX2_arrive 49 = .ok (.iadd, 1) := by decide +kernel
theorem dX2_arrive_50 : decode cX2_arrive 50 = .ok (.putfield 43, 3) := by decide +kernel
theorem dX2_arrive_53 : decode cX2_arrive 53 = .ok (.aload_n 0, 1) := by decide +kernel
theorem dX2_arrive_54 : decode cX2_arrive 54 = .ok (.getfield 80, 3) := by decide +kernel
theorem dX2_arrive_57 : decode cX2_arrive 57 = .ok (.istore_n 2, 1) := by decide +kernel
theorem dX2_arrive_58 : decode cX2_arrive 58 = .ok (.iconst 0, 1) := by decide +kernel
theorem dX2_arrive_59 : decode cX2_arrive 59 = .ok (.istore_n 3, 1) := by decide +kernel
theorem dX2_arrive_60 : decode cX2_arrive 60 = .ok (.iload_n 3, 1) := by decide +kernel
theorem dX2_arrive_61 : decode cX2_arrive 61 = .ok (.aload_n 0, 1) := by decide +kernel
theorem dX2_arrive_62 : decode cX2_arrive 62 = .ok (.getfield 61, 3) := by decide +kernel
theorem dX2_arrive_65 : decode cX2_arrive 65 = .ok (.if_icmp .ge 160, 3) := by decide +kernel
theorem dX2_arrive_68 : decode cX2_arrive 68 = .ok (.aload_n 0, 1) := by decide +kernel
theorem dX2_arrive_69 : decode cX2_arrive 69 = .ok (.getfield 83, 3) := by decide +kernel
theorem dX2_arrive_72 : decode cX2_arrive 72 = .ok (.ifCond .eq 153, 3) := by decide +kernel
theorem dX2_arrive_75 : decode cX2_arrive 75 = .ok (.aload_n 0, 1) := by decide +kernel
theorem dX2_arrive_76 : decode cX2_arrive 76 = .ok (.getfield 104, 3) := by decide +kernel
theorem dX2_arrive_79 : decode cX2_arrive 79 = .ok (.iconst 3, 1) := by decide +kernel
theorem dX2_arrive_80 : decode cX2_arrive 80 = .ok (.iload_n 3, 1) := by decide +kernel
theorem dX2_arrive_81 : decode cX2_arrive 81 = .ok (.imul, 1) := by decide +kernel
theorem dX2_arrive_82 : decode cX2_arrive 82 = .ok (.lshr, 1) := by decide +kernel
theorem dX2_arrive_83 : decode cX2_arrive 83 = .ok (.ldc2_w 107, 3) := by decide +kernel
theorem dX2_arrive_86 : decode cX2_arrive 86 = .ok (.land, 1) := by decide +kernel
theorem dX2_arrive_87 : decode cX2_arrive 87 = .ok (.lstore 4, 2) := by decide +kernel
theorem dX2_arrive_89 : decode cX2_arrive 89 = .ok (.aload_n 0, 1) := by decide +kernel
theorem dX2_arrive_90 : decode cX2_arrive 90 = .ok (.getfield 115, 3) := by decide +kernel
theorem dX2_arrive_93 : decode cX2_arrive 93 = .ok (.iconst 3, 1) := by decide +kernel
theorem dX2_arrive_94 : decode cX2_arrive 94 = .ok (.iload_n 3, 1) := by decide +kernel
theorem dX2_arrive_95 : decode cX2_arrive 95 = .ok (.imul, 1) := by decide +kernel
theorem dX2_arrive_96 : decode cX2_arrive 96 = .ok (.lshr, 1) := by decide +kernel
theorem dX2_arrive_97 : decode cX2_arrive 97 = .ok (.ldc2_w 107, 3) := by decide +kernel
theorem dX2_arrive_100 : decode cX2_arrive 100 = .ok (.land, 1) := by decide +kernel
theorem dX2_arrive_101 : decode cX2_arrive 101 = .ok (.lstore 6, 2) := by decide +kernel
theorem dX2_arrive_103 : decode cX2_arrive 103 = .ok (.aload_n 0, 1) := by decide +kernel
theorem dX2_arrive_104 : decode cX2_arrive 104 = .ok (.dup, 1) := by decide +kernel
theorem dX2_arrive_105 : decode cX2_arrive 105 = .ok (.getfield 86, 3) := by decide +kernel
theorem dX2_arrive_108 : decode cX2_arrive 108 = .ok (.lconst 1, 1) := by decide +kernel
theorem dX2_arrive_109 : decode cX2_arrive 109 = .ok (.bipush 6, 2) := by decide +kernel
theorem dX2_arrive_111 : decode cX2_arrive 111 = .ok (.iload_n 3, 1) := by decide +kernel
theorem dX2_arrive_112 : decode cX2_arrive 112 = .ok (.imul, 1) := by decide +kernel
theorem dX2_arrive_113 : decode cX2_arrive 113 = .ok (.i2l, 1) := by decide +kernel
theorem dX2_arrive_114 : decode cX2_arrive 114 = .ok (.lload 4, 2) := by decide +kernel
theorem dX2_arrive_116 : decode cX2_arrive 116 = .ok (.ladd, 1) := by decide +kernel
theorem dX2_arrive_117 : decode cX2_arrive 117 = .ok (.l2i, 1) := by decide +kernel
theorem dX2_arrive_118 : decode cX2_arrive 118 = .ok (.lshl, 1) := by decide +kernel
theorem dX2_arrive_119 : decode cX2_arrive 119 = .ok (.lor, 1) := by decide +kernel
theorem dX2_arrive_120 : decode cX2_arrive 120 = .ok (.putfield 86, 3) := by decide +kernel
theorem dX2_arrive_123 : decode cX2_arrive 123 = .ok (.iinc 2 (-1), 3) := by decide +kernel
theorem dX2_arrive_126 : decode cX2_arrive 126 = .ok (.iconst 0, 1) := by decide +kernel
theorem dX2_arrive_127 : decode cX2_arrive 127 = .ok (.istore 8, 2) := by decide +kernel
theorem dX2_arrive_129 : decode cX2_arrive 129 = .ok (.iload 8, 2) := by decide +kernel
theorem dX2_arrive_131 : decode cX2_arrive 131 = .ok (.iload_n 3, 1) := by decide +kernel
theorem dX2_arrive_132 : decode cX2_arrive 132 = .ok (.if_icmp .ge 87, 3) := by decide +kernel
theorem dX2_arrive_135 : decode cX2_arrive 135 = .ok (.iinc 2 (-1), 3) := by decide +kernel
theorem dX2_arrive_138 : decode cX2_arrive 138 = .ok (.lconst 1, 1) := by decide +kernel
theorem dX2_arrive_139 : decode cX2_arrive 139 = .ok (.lload 4, 2) := by decide +kernel
theorem dX2_arrive_141 : decode cX2_arrive 141 = .ok (.l2i, 1) := by decide +kernel
theorem dX2_arrive_142 : decode cX2_arrive 142 = .ok (.lshl, 1) := by decide +kernel
theorem dX2_arrive_143 : decode cX2_arrive 143 = .ok (.lconst 1, 1) := by decide +kernel
theorem dX2_arrive_144 : decode cX2_arrive 144 = .ok (.aload_n 0, 1) := by decide +kernel
theorem dX2_arrive_145 : decode cX2_arrive 145 = .ok (.getfield 104, 3) := by decide +kernel
theorem dX2_arrive_148 : decode cX2_arrive 148 = .ok (.iconst 3, 1) := by decide +kernel
theorem dX2_arrive_149 : decode cX2_arrive 149 = .ok (.iload 8, 2) := by decide +kernel
theorem dX2_arrive_151 : decode cX2_arrive 151 = .ok (.imul, 1) := by decide +kernel
theorem dX2_arrive_152 : decode cX2_arrive 152 = .ok (.lshr, 1) := by decide +kernel
theorem dX2_arrive_153 : decode cX2_arrive 153 = .ok (.ldc2_w 107, 3) := by decide +kernel
theorem dX2_arrive_156 : decode cX2_arrive 156 = .ok (.land, 1) := by decide +kernel
theorem dX2_arrive_157 : decode cX2_arrive 157 = .ok (.l2i, 1) := by decide +kernel
theorem dX2_arrive_158 : decode cX2_arrive 158 = .ok (.lshl, 1) := by decide +kernel
theorem dX2_arrive_159 : decode cX2_arrive 159 = .ok (.lor, 1) := by decide +kernel
theorem dX2_arrive_160 : decode cX2_arrive 160 = .ok (.lstore 9, 2) := by decide +kernel
theorem dX2_arrive_162 : decode cX2_arrive 162 = .ok (.lconst 1, 1) := by decide +kernel
theorem dX2_arrive_163 : decode cX2_arrive 163 = .ok (.lload 6, 2) := by decide +kernel
theorem dX2_arrive_165 : decode cX2_arrive 165 = .ok (.l2i, 1) := by decide +kernel
theorem dX2_arrive_166 : decode cX2_arrive 166 = .ok (.lshl, 1) := by decide +kernel
theorem dX2_arrive_167 : decode cX2_arrive 167 = .ok (.lconst 1, 1) := by decide +kernel
theorem dX2_arrive_168 : decode cX2_arrive 168 = .ok (.aload_n 0, 1) := by decide +kernel
theorem dX2_arrive_169 : decode cX2_arrive 169 = .ok (.getfield 115, 3) := by decide +kernel
theorem dX2_arrive_172 : decode cX2_arrive 172 = .ok (.iconst 3, 1) := by decide +kernel
theorem dX2_arrive_173 : decode cX2_arrive 173 = .ok (.iload 8, 2) := by decide +kernel
theorem dX2_arrive_175 : decode cX2_arrive 175 = .ok (.imul, 1) := by decide +kernel
theorem dX2_arrive_176 : decode cX2_arrive 176 = .ok (.lshr, 1) := by decide +kernel
theorem dX2_arrive_177 : decode cX2_arrive 177 = .ok (.ldc2_w 107, 3) := by decide +kernel
theorem dX2_arrive_180 : decode cX2_arrive 180 = .ok (.land, 1) := by decide +kernel
theorem dX2_arrive_181 : decode cX2_arrive 181 = .ok (.l2i, 1) := by decide +kernel
theorem dX2_arrive_182 : decode cX2_arrive 182 = .ok (.lshl, 1) := by decide +kernel
theorem dX2_arrive_183 : decode cX2_arrive 183 = .ok (.lor, 1) := by decide +kernel
theorem dX2_arrive_184 : decode cX2_arrive 184 = .ok (.lstore 11, 2) := by decide +kernel
theorem dX2_arrive_186 : decode cX2_arrive 186 = .ok (.iload_n 1, 1) := by decide +kernel
theorem dX2_arrive_187 : decode cX2_arrive 187 = .ok (.iload_n 2, 1) := by decide +kernel
theorem dX2_arrive_188 : decode cX2_arrive 188 = .ok (.ishr, 1) := by decide +kernel
theorem dX2_arrive_189 : decode cX2_arrive 189 = .ok (.iconst 1, 1) := by decide +kernel
theorem dX2_arrive_190 : decode cX2_arrive 190 = .ok (.iand, 1) := by decide +kernel
theorem dX2_arrive_191 : decode cX2_arrive 191 = .ok (.iconst 1, 1) := by decide +kernel
theorem dX2_arrive_192 : decode cX2_arrive 192 = .ok (.if_icmp .ne 21, 3) := by decide +kernel
theorem dX2_arrive_195 : decode cX2_arrive 195 = .ok (.lload 9, 2) := by decide +kernel
theorem dX2_arrive_197 : decode cX2_arrive 197 = .ok (.lload 11, 2) := by decide +kernel
theorem dX2_arrive_199 : decode cX2_arrive 199 = .ok (.lcmp, 1) := by decide +kernel
theorem dX2_arrive_200 : decode cX2_arrive 200 = .ok (.ifCond .ne 13, 3) := by decide +kernel
theorem dX2_arrive_203 : decode cX2_arrive 203 = .ok (.aload_n 0, 1) := by decide +kernel
theorem dX2_arrive_204 : decode cX2_arrive 204 = .ok (.dup, 1) := by decide +kernel
theorem dX2_arrive_205 : decode cX2_arrive 205 = .ok (.getfield 70, 3) := by decide +kernel
theorem dX2_arrive_208 : decode cX2_arrive 208 = .ok (.iconst 1, 1) := by decide +kernel
theorem dX2_arrive_209 : decode cX2_arrive 209 = .ok (.iadd, 1) := by decide +kernel
theorem dX2_arrive_210 : decode cX2_arrive 210 = .ok (.putfield 70, 3) := by decide +kernel
theorem dX2_arrive_213 : decode cX2_arrive 213 = .ok (.iinc 8 1, 3) := by decide +kernel
theorem dX2_arrive_216 : decode cX2_arrive 216 = .ok (.goto (-87), 3) := by decide +kernel
theorem dX2_arrive_219 : decode cX2_arrive 219 = .ok (.iinc 3 1, 3) := by decide +kernel
theorem dX2_arrive_222 : decode cX2_arrive 222 = .ok (.goto (-162), 3) := by decide +kernel
theorem dX2_arrive_225 : decode cX2_arrive 225 = .ok (.return_, 1) := by decide +kernel
set_option maxHeartbeats 4000000 in
set_option maxRecDepth 100000 in
theorem c_X2_arrive (l : Launch) (D : va_G) (T : Nat → ClassId) (h_t h_t_sketch : Nat) (t_allBits : Int32) (t_firstOrder : Int64) (t_isBeaten : Int32) (t_isStudy : Int32) (t_isTest : Int32) (t_least : Int32) (t_nodes : Int32) (t_order : Int64) (t_seen : Int64) (t_stillEdges : Int32) (t_symmetries : Int32) (p1 : Int32) (post : Int64 → Int32 → Int64 → Int32 → Int32 → Prop) (h : F_X2_arrive t_allBits t_isStudy t_nodes t_order t_firstOrder t_least t_seen t_stillEdges t_symmetries p1 post) : cV l D T yX2_arrive cX2_arrive 13 none 0 0 0 0 [.ref h_t, .int p1] [(h_t, .inr (1, [.ref h_t_sketch, .int t_nodes, .int t_allBits, .int t_isTest, .int t_isBeaten, .int t_isStudy, .long t_order, .int t_least, .int t_symmetries, .long t_firstOrder, .long t_seen, .int t_stillEdges]))] (fun w1 => ∃ (t_firstOrder1 : Int64) (t_least1 : Int32) (t_seen1 : Int64) (t_stillEdges1 : Int32) (t_symmetries1 : Int32), w1 = [(h_t, .inr (1, [.ref h_t_sketch, .int t_nodes, .int t_allBits, .int t_isTest, .int t_isBeaten, .int t_isStudy, .long t_order, .int t_least1, .int t_symmetries1, .long t_firstOrder1, .long t_seen1, .int t_stillEdges1]))] ∧ post t_firstOrder1 t_least1 t_seen1 t_stillEdges1 t_symmetries1) := by
  refine xV_of (by decide +kernel) (Nat.le_of_ble_eq_true rfl) rfl ?_
  intro G X hret
  change G 0 0 0 [(0, .ref h_t), (1, .int p1)] [] [(h_t, .inr (1, [.ref h_t_sketch, .int t_nodes, .int t_allBits, .int t_isTest, .int t_isBeaten, .int t_isStudy, .long t_order, .int t_least, .int t_symmetries, .long t_firstOrder, .long t_seen, .int t_stillEdges]))]
  unfold F_X2_arrive at h
  have k43 : ∀ (x1 : Int32) (t_firstOrder : Int64) (t_least : Int32) (t_seen : Int64) (t_stillEdges : Int32) (t_symmetries : Int32), F_X2_arrive_43 t_allBits t_isStudy t_nodes t_order post x1 t_firstOrder t_least t_seen t_stillEdges t_symmetries → G 0 0 43 [(0, .ref h_t), (1, .int x1)] [] [(h_t, .inr (1, [.ref h_t_sketch, .int t_nodes, .int t_allBits, .int t_isTest, .int t_isBeaten, .int t_isStudy, .long t_order, .int t_least, .int t_symmetries, .long t_firstOrder, .long t_seen, .int t_stillEdges]))] := by
    intro x1 t_firstOrder t_least t_seen t_stillEdges t_symmetries h
    unfold F_X2_arrive_43 at h
    have k60 : ∀ (n60 : Nat) (x1 : Int32) (x2 : Int32) (x3 : Int32) (t_firstOrder : Int64) (t_least : Int32) (t_seen : Int64) (t_stillEdges : Int32) (t_symmetries : Int32), F_X2_arrive_60 t_allBits t_isStudy t_nodes t_order post n60 x1 x2 x3 t_firstOrder t_least t_seen t_stillEdges t_symmetries → G 0 0 60 [(0, .ref h_t), (1, .int x1), (2, .int x2), (3, .int x3)] [] [(h_t, .inr (1, [.ref h_t_sketch, .int t_nodes, .int t_allBits, .int t_isTest, .int t_isBeaten, .int t_isStudy, .long t_order, .int t_least, .int t_symmetries, .long t_firstOrder, .long t_seen, .int t_stillEdges]))] := by
      intro n60
      induction n60 with
      | zero => intro x1 x2 x3 t_firstOrder t_least t_seen t_stillEdges t_symmetries h; exact h.elim
      | succ n60 ih60 =>
        intro x1 x2 x3 t_firstOrder t_least t_seen t_stillEdges t_symmetries h
        rw [F_X2_arrive_60] at h
        have k129 : ∀ (n129 : Nat) (x1 : Int32) (x2 : Int32) (x3 : Int32) (x4 : Int64) (x6 : Int64) (x8 : Int32) (t_firstOrder : Int64) (t_least : Int32) (t_seen : Int64) (t_stillEdges : Int32) (t_symmetries : Int32), F_X2_arrive_129 t_allBits t_isStudy t_nodes t_order post (F_X2_arrive_60 t_allBits t_isStudy t_nodes t_order post n60) n129 x1 x2 x3 x4 x6 x8 t_firstOrder t_least t_seen t_stillEdges t_symmetries → G 0 0 129 [(0, .ref h_t), (1, .int x1), (2, .int x2), (3, .int x3), (4, .long x4), (6, .long x6), (8, .int x8)] [] [(h_t, .inr (1, [.ref h_t_sketch, .int t_nodes, .int t_allBits, .int t_isTest, .int t_isBeaten, .int t_isStudy, .long t_order, .int t_least, .int t_symmetries, .long t_firstOrder, .long t_seen, .int t_stillEdges]))] := by
          intro n129
          induction n129 with
          | zero => intro x1 x2 x3 x4 x6 x8 t_firstOrder t_least t_seen t_stillEdges t_symmetries h; exact h.elim
          | succ n129 ih129 =>
            intro x1 x2 x3 x4 x6 x8 t_firstOrder t_least t_seen t_stillEdges t_symmetries h
            rw [F_X2_arrive_129] at h
            have k213 : ∀ (x1 : Int32) (x2 : Int32) (x3 : Int32) (x4 : Int64) (x6 : Int64) (x8 : Int32) (t_firstOrder : Int64) (t_least : Int32) (t_seen : Int64) (t_stillEdges : Int32) (t_symmetries : Int32), F_X2_arrive_213 t_allBits t_isStudy t_nodes t_order post (F_X2_arrive_129 t_allBits t_isStudy t_nodes t_order post (F_X2_arrive_60 t_allBits t_isStudy t_nodes t_order post n60) n129) x1 x2 x3 x4 x6 x8 t_firstOrder t_least t_seen t_stillEdges t_symmetries → G 0 0 213 [(0, .ref h_t), (1, .int x1), (2, .int x2), (3, .int x3), (4, .long x4), (6, .long x6), (8, .int x8)] [] [(h_t, .inr (1, [.ref h_t_sketch, .int t_nodes, .int t_allBits, .int t_isTest, .int t_isBeaten, .int t_isStudy, .long t_order, .int t_least, .int t_symmetries, .long t_firstOrder, .long t_seen, .int t_stillEdges]))] := by
              intro x1 x2 x3 x4 x6 x8 t_firstOrder t_least t_seen t_stillEdges t_symmetries h
              unfold F_X2_arrive_213 at h
              refine x_iinc (v := (x8 + 1)) (lv' := [(8, .int (x8 + 1)), (0, .ref h_t), (1, .int x1), (2, .int x2), (3, .int x3), (4, .long x4), (6, .long x6)]) X dX2_arrive_213 6 rfl rfl (by decide) rfl ?_
              refine x_goto (tgt := 129) X dX2_arrive_216 (by decide) ?_
              exact x_sub X [1, 2, 3, 4, 5, 6, 0] rfl (ih129 x1 x2 x3 x4 x6 (x8 + 1) t_firstOrder t_least t_seen t_stillEdges t_symmetries h)
            refine x_iload X dX2_arrive_129 6 rfl ?_
            refine x_iload_n X dX2_arrive_131 3 rfl ?_
            refine x_icmp_ge (tgt := 219) X dX2_arrive_132 (by decide) (fun hc => ?_) (fun hc => ?_)
            · have h := h.1 hc
              refine x_iinc (v := (x3 + 1)) (lv' := [(3, .int (x3 + 1)), (0, .ref h_t), (1, .int x1), (2, .int x2), (4, .long x4), (6, .long x6), (8, .int x8)]) X dX2_arrive_219 3 rfl rfl (by decide) rfl ?_
              refine x_goto (tgt := 60) X dX2_arrive_222 (by decide) ?_
              exact x_sub X [1, 2, 3, 0] rfl (ih60 x1 x2 (x3 + 1) t_firstOrder t_least t_seen t_stillEdges t_symmetries h)
            · have h := h.2 hc
              refine x_iinc (v := (x2 + (-1))) (lv' := [(2, .int (x2 + (-1))), (0, .ref h_t), (1, .int x1), (3, .int x3), (4, .long x4), (6, .long x6), (8, .int x8)]) X dX2_arrive_135 2 rfl rfl (by decide) rfl ?_
              refine x_lconst (v := 1) X dX2_arrive_138 (by decide) ?_
              refine x_lload X dX2_arrive_139 4 rfl ?_
              refine x_l2i X dX2_arrive_141 ?_
              refine x_lshl X dX2_arrive_142 ?_
              refine x_lconst (v := 1) X dX2_arrive_143 (by decide) ?_
              refine x_aload_n X dX2_arrive_144 1 rfl ?_
              refine x_get X inGX2 6 (by decide) rfl tw_240 dX2_arrive_145 rfl 0 rfl rfl ?_
              refine x_iconst (v := 3) X dX2_arrive_148 (by decide) ?_
              refine x_iload X dX2_arrive_149 6 rfl ?_
              refine x_imul X dX2_arrive_151 ?_
              refine x_lshr X dX2_arrive_152 ?_
              refine x_ldc2 (v := 7) X tw_371 dX2_arrive_153 ?_
              refine x_land X dX2_arrive_156 ?_
              refine x_l2i X dX2_arrive_157 ?_
              refine x_lshl X dX2_arrive_158 ?_
              refine x_lor X dX2_arrive_159 ?_
              refine x_topl X (fun x9_160 e_x9_160 => ?_)
              have h := h x9_160 e_x9_160
              refine x_lstore (lv' := [(9, .long x9_160), (2, .int (x2 + (-1))), (0, .ref h_t), (1, .int x1), (3, .int x3), (4, .long x4), (6, .long x6), (8, .int x8)]) X dX2_arrive_160 (by decide) rfl ?_
              refine x_lconst (v := 1) X dX2_arrive_162 (by decide) ?_
              refine x_lload X dX2_arrive_163 6 rfl ?_
              refine x_l2i X dX2_arrive_165 ?_
              refine x_lshl X dX2_arrive_166 ?_
              refine x_lconst (v := 1) X dX2_arrive_167 (by decide) ?_
              refine x_aload_n X dX2_arrive_168 2 rfl ?_
              refine x_get X inGX2 9 (by decide) rfl tw_245 dX2_arrive_169 rfl 0 rfl rfl ?_
              refine x_iconst (v := 3) X dX2_arrive_172 (by decide) ?_
              refine x_iload X dX2_arrive_173 7 rfl ?_
              refine x_imul X dX2_arrive_175 ?_
              refine x_lshr X dX2_arrive_176 ?_
              refine x_ldc2 (v := 7) X tw_371 dX2_arrive_177 ?_
              refine x_land X dX2_arrive_180 ?_
              refine x_l2i X dX2_arrive_181 ?_
              refine x_lshl X dX2_arrive_182 ?_
              refine x_lor X dX2_arrive_183 ?_
              refine x_topl X (fun x11_184 e_x11_184 => ?_)
              have h := h x11_184 e_x11_184
              refine x_lstore (lv' := [(11, .long x11_184), (9, .long x9_160), (2, .int (x2 + (-1))), (0, .ref h_t), (1, .int x1), (3, .int x3), (4, .long x4), (6, .long x6), (8, .int x8)]) X dX2_arrive_184 (by decide) rfl ?_
              refine x_iload_n X dX2_arrive_186 4 rfl ?_
              refine x_iload_n X dX2_arrive_187 2 rfl ?_
              refine x_ishr X dX2_arrive_188 ?_
              refine x_iconst (v := 1) X dX2_arrive_189 (by decide) ?_
              refine x_iand X dX2_arrive_190 ?_
              refine x_iconst (v := 1) X dX2_arrive_191 (by decide) ?_
              refine x_icmp_ne (tgt := 213) X dX2_arrive_192 (by decide) (fun hc => ?_) (fun hc => ?_)
              · have h := h.1 hc
                exact x_sub X [3, 4, 2, 5, 6, 7, 8] rfl (k213 x1 (x2 + (-1)) x3 x4 x6 x8 t_firstOrder t_least t_seen t_stillEdges t_symmetries h)
              · have h := h.2 hc
                refine x_lload X dX2_arrive_195 1 rfl ?_
                refine x_lload X dX2_arrive_197 0 rfl ?_
                refine x_lcmp X dX2_arrive_199 ?_
                refine x_if_ne (tgt := 213) X dX2_arrive_200 (by decide) (fun hc => ?_) (fun hc => ?_)
                · have h := h.1 hc
                  exact x_sub X [3, 4, 2, 5, 6, 7, 8] rfl (k213 x1 (x2 + (-1)) x3 x4 x6 x8 t_firstOrder t_least t_seen t_stillEdges t_symmetries h)
                · have h := h.2 hc
                  refine x_aload_n X dX2_arrive_203 3 rfl ?_
                  refine x_dup X dX2_arrive_204 rfl ?_
                  refine x_get X inGX2 11 (by decide) rfl tw_248 dX2_arrive_205 rfl 0 rfl rfl ?_
                  refine x_iconst (v := 1) X dX2_arrive_208 (by decide) ?_
                  refine x_iadd X dX2_arrive_209 ?_
                  refine x_put (ws' := [(h_t, .inr (1, [.ref h_t_sketch, .int t_nodes, .int t_allBits, .int t_isTest, .int t_isBeaten, .int t_isStudy, .long t_order, .int t_least, .int t_symmetries, .long t_firstOrder, .long t_seen, .int (t_stillEdges + (1 : Int32))]))]) X inGX2 tyX2_ok nmX2 11 (by decide) rfl tw_248 dX2_arrive_210 rfl rfl 0 rfl rfl rfl (Nat.le_of_ble_eq_true rfl) rfl ?_
                  exact x_sub X [3, 4, 2, 5, 6, 7, 8] rfl (k213 x1 (x2 + (-1)) x3 x4 x6 x8 t_firstOrder t_least t_seen (t_stillEdges + (1 : Int32)) t_symmetries h)
        have k225 : ∀ (t_firstOrder : Int64) (t_least : Int32) (t_seen : Int64) (t_stillEdges : Int32) (t_symmetries : Int32), F_X2_arrive_225 t_allBits t_isStudy t_nodes t_order post t_firstOrder t_least t_seen t_stillEdges t_symmetries → G 0 0 225 [] [] [(h_t, .inr (1, [.ref h_t_sketch, .int t_nodes, .int t_allBits, .int t_isTest, .int t_isBeaten, .int t_isStudy, .long t_order, .int t_least, .int t_symmetries, .long t_firstOrder, .long t_seen, .int t_stillEdges]))] := by
          intro t_firstOrder t_least t_seen t_stillEdges t_symmetries h
          unfold F_X2_arrive_225 at h
          exact hret _ _ _ dX2_arrive_225 ⟨t_firstOrder, t_least, t_seen, t_stillEdges, t_symmetries, rfl, h⟩
        refine x_iload_n X dX2_arrive_60 3 rfl ?_
        refine x_aload_n X dX2_arrive_61 0 rfl ?_
        refine x_get X inGX2 1 (by decide) rfl tw_234 dX2_arrive_62 rfl 0 rfl rfl ?_
        refine x_icmp_ge (tgt := 225) X dX2_arrive_65 (by decide) (fun hc => ?_) (fun hc => ?_)
        · have h := h.1 hc
          exact x_sub X [] rfl (k225 t_firstOrder t_least t_seen t_stillEdges t_symmetries h)
        · have h := h.2 hc
          refine x_aload_n X dX2_arrive_68 0 rfl ?_
          refine x_get X inGX2 5 (by decide) rfl tw_239 dX2_arrive_69 rfl 0 rfl rfl ?_
          refine x_if_eq (tgt := 225) X dX2_arrive_72 (by decide) (fun hc => ?_) (fun hc => ?_)
          · have h := h.1 hc
            exact x_sub X [] rfl (k225 t_firstOrder t_least t_seen t_stillEdges t_symmetries h)
          · have h := h.2 hc
            refine x_aload_n X dX2_arrive_75 0 rfl ?_
            refine x_get X inGX2 6 (by decide) rfl tw_240 dX2_arrive_76 rfl 0 rfl rfl ?_
            refine x_iconst (v := 3) X dX2_arrive_79 (by decide) ?_
            refine x_iload_n X dX2_arrive_80 3 rfl ?_
            refine x_imul X dX2_arrive_81 ?_
            refine x_lshr X dX2_arrive_82 ?_
            refine x_ldc2 (v := 7) X tw_371 dX2_arrive_83 ?_
            refine x_land X dX2_arrive_86 ?_
            refine x_lstore (lv' := [(4, .long ((t_order >>> (((3 : Int32) * x3).toInt64 &&& 63)) &&& (7 : Int64))), (0, .ref h_t), (1, .int x1), (2, .int x2), (3, .int x3)]) X dX2_arrive_87 (by decide) rfl ?_
            refine x_aload_n X dX2_arrive_89 1 rfl ?_
            refine x_get X inGX2 9 (by decide) rfl tw_245 dX2_arrive_90 rfl 0 rfl rfl ?_
            refine x_iconst (v := 3) X dX2_arrive_93 (by decide) ?_
            refine x_iload_n X dX2_arrive_94 4 rfl ?_
            refine x_imul X dX2_arrive_95 ?_
            refine x_lshr X dX2_arrive_96 ?_
            refine x_ldc2 (v := 7) X tw_371 dX2_arrive_97 ?_
            refine x_land X dX2_arrive_100 ?_
            refine x_topl X (fun x6_101 e_x6_101 => ?_)
            have h := h x6_101 e_x6_101
            refine x_lstore (lv' := [(6, .long x6_101), (4, .long ((t_order >>> (((3 : Int32) * x3).toInt64 &&& 63)) &&& (7 : Int64))), (0, .ref h_t), (1, .int x1), (2, .int x2), (3, .int x3)]) X dX2_arrive_101 (by decide) rfl ?_
            refine x_aload_n X dX2_arrive_103 2 rfl ?_
            refine x_dup X dX2_arrive_104 rfl ?_
            refine x_get X inGX2 10 (by decide) rfl tw_247 dX2_arrive_105 rfl 0 rfl rfl ?_
            refine x_lconst (v := 1) X dX2_arrive_108 (by decide) ?_
            refine x_bipush (v := 6) X dX2_arrive_109 (by decide) ?_
            refine x_iload_n X dX2_arrive_111 5 rfl ?_
            refine x_imul X dX2_arrive_112 ?_
            refine x_i2l X dX2_arrive_113 ?_
            refine x_lload X dX2_arrive_114 1 rfl ?_
            refine x_ladd X dX2_arrive_116 ?_
            refine x_l2i X dX2_arrive_117 ?_
            refine x_lshl X dX2_arrive_118 ?_
            refine x_lor X dX2_arrive_119 ?_
            refine x_put (ws' := [(h_t, .inr (1, [.ref h_t_sketch, .int t_nodes, .int t_allBits, .int t_isTest, .int t_isBeaten, .int t_isStudy, .long t_order, .int t_least, .int t_symmetries, .long t_firstOrder, .long (t_seen ||| ((1 : Int64) <<< ((((((6 : Int32) * x3).toInt64) + ((t_order >>> (((3 : Int32) * x3).toInt64 &&& 63)) &&& (7 : Int64))).toInt32).toInt64 &&& 63))), .int t_stillEdges]))]) X inGX2 tyX2_ok nmX2 10 (by decide) rfl tw_247 dX2_arrive_120 rfl rfl 0 rfl rfl rfl (Nat.le_of_ble_eq_true rfl) rfl ?_
            refine x_iinc (v := (x2 + (-1))) (lv' := [(2, .int (x2 + (-1))), (6, .long x6_101), (4, .long ((t_order >>> (((3 : Int32) * x3).toInt64 &&& 63)) &&& (7 : Int64))), (0, .ref h_t), (1, .int x1), (3, .int x3)]) X dX2_arrive_123 4 rfl rfl (by decide) rfl ?_
            refine x_iconst (v := 0) X dX2_arrive_126 (by decide) ?_
            refine x_istore (lv' := [(8, .int (0 : Int32)), (2, .int (x2 + (-1))), (6, .long x6_101), (4, .long ((t_order >>> (((3 : Int32) * x3).toInt64 &&& 63)) &&& (7 : Int64))), (0, .ref h_t), (1, .int x1), (3, .int x3)]) X dX2_arrive_127 (by decide) rfl ?_
            obtain ⟨n129, h⟩ := h
            exact x_sub X [4, 5, 1, 6, 3, 2, 0] rfl (k129 n129 x1 (x2 + (-1)) x3 ((t_order >>> (((3 : Int32) * x3).toInt64 &&& 63)) &&& (7 : Int64)) x6_101 (0 : Int32) t_firstOrder t_least (t_seen ||| ((1 : Int64) <<< ((((((6 : Int32) * x3).toInt64) + ((t_order >>> (((3 : Int32) * x3).toInt64 &&& 63)) &&& (7 : Int64))).toInt32).toInt64 &&& 63))) t_stillEdges t_symmetries h)
    refine x_aload_n X dX2_arrive_43 0 rfl ?_
    refine x_dup X dX2_arrive_44 rfl ?_
    refine x_get X inGX2 8 (by decide) rfl tw_243 dX2_arrive_45 rfl 0 rfl rfl ?_
    refine x_iconst (v := 1) X dX2_arrive_48 (by decide) ?_
    refine x_iadd X dX2_arrive_49 ?_
    refine x_put (ws' := [(h_t, .inr (1, [.ref h_t_sketch, .int t_nodes, .int t_allBits, .int t_isTest, .int t_isBeaten, .int t_isStudy, .long t_order, .int t_least, .int (t_symmetries + (1 : Int32)), .long t_firstOrder, .long t_seen, .int t_stillEdges]))]) X inGX2 tyX2_ok nmX2 8 (by decide) rfl tw_243 dX2_arrive_50 rfl rfl 0 rfl rfl rfl (Nat.le_of_ble_eq_true rfl) rfl ?_
    refine x_aload_n X dX2_arrive_53 0 rfl ?_
    refine x_get X inGX2 2 (by decide) rfl tw_236 dX2_arrive_54 rfl 0 rfl rfl ?_
    refine x_istore_n (lv' := [(2, .int t_allBits), (0, .ref h_t), (1, .int x1)]) X dX2_arrive_57 (by decide) rfl ?_
    refine x_iconst (v := 0) X dX2_arrive_58 (by decide) ?_
    refine x_istore_n (lv' := [(3, .int (0 : Int32)), (2, .int t_allBits), (0, .ref h_t), (1, .int x1)]) X dX2_arrive_59 (by decide) rfl ?_
    obtain ⟨n60, h⟩ := h
    exact x_sub X [2, 3, 1, 0] rfl (k60 n60 x1 t_allBits (0 : Int32) t_firstOrder t_least t_seen t_stillEdges (t_symmetries + (1 : Int32)) h)
  have k15 : ∀ (x1 : Int32) (t_firstOrder : Int64) (t_least : Int32) (t_seen : Int64) (t_stillEdges : Int32) (t_symmetries : Int32), F_X2_arrive_15 t_allBits t_isStudy t_nodes t_order post (fun x1 t_firstOrder t_least t_seen t_stillEdges t_symmetries => F_X2_arrive_43 t_allBits t_isStudy t_nodes t_order post x1 t_firstOrder t_least t_seen t_stillEdges t_symmetries) x1 t_firstOrder t_least t_seen t_stillEdges t_symmetries → G 0 0 15 [(0, .ref h_t), (1, .int x1)] [] [(h_t, .inr (1, [.ref h_t_sketch, .int t_nodes, .int t_allBits, .int t_isTest, .int t_isBeaten, .int t_isStudy, .long t_order, .int t_least, .int t_symmetries, .long t_firstOrder, .long t_seen, .int t_stillEdges]))] := by
    intro x1 t_firstOrder t_least t_seen t_stillEdges t_symmetries h
    unfold F_X2_arrive_15 at h
    refine x_aload_n X dX2_arrive_15 0 rfl ?_
    refine x_iload_n X dX2_arrive_16 1 rfl ?_
    refine x_put (ws' := [(h_t, .inr (1, [.ref h_t_sketch, .int t_nodes, .int t_allBits, .int t_isTest, .int t_isBeaten, .int t_isStudy, .long t_order, .int x1, .int t_symmetries, .long t_firstOrder, .long t_seen, .int t_stillEdges]))]) X inGX2 tyX2_ok nmX2 7 (by decide) rfl tw_241 dX2_arrive_17 rfl rfl 0 rfl rfl rfl (Nat.le_of_ble_eq_true rfl) rfl ?_
    refine x_aload_n X dX2_arrive_20 0 rfl ?_
    refine x_iconst (v := 0) X dX2_arrive_21 (by decide) ?_
    refine x_put (ws' := [(h_t, .inr (1, [.ref h_t_sketch, .int t_nodes, .int t_allBits, .int t_isTest, .int t_isBeaten, .int t_isStudy, .long t_order, .int x1, .int (0 : Int32), .long t_firstOrder, .long t_seen, .int t_stillEdges]))]) X inGX2 tyX2_ok nmX2 8 (by decide) rfl tw_243 dX2_arrive_22 rfl rfl 0 rfl rfl rfl (Nat.le_of_ble_eq_true rfl) rfl ?_
    refine x_aload_n X dX2_arrive_25 0 rfl ?_
    refine x_aload_n X dX2_arrive_26 0 rfl ?_
    refine x_get X inGX2 6 (by decide) rfl tw_240 dX2_arrive_27 rfl 0 rfl rfl ?_
    refine x_put (ws' := [(h_t, .inr (1, [.ref h_t_sketch, .int t_nodes, .int t_allBits, .int t_isTest, .int t_isBeaten, .int t_isStudy, .long t_order, .int x1, .int (0 : Int32), .long t_order, .long t_seen, .int t_stillEdges]))]) X inGX2 tyX2_ok nmX2 9 (by decide) rfl tw_245 dX2_arrive_30 rfl rfl 0 rfl rfl rfl (Nat.le_of_ble_eq_true rfl) rfl ?_
    refine x_aload_n X dX2_arrive_33 0 rfl ?_
    refine x_lconst (v := 0) X dX2_arrive_34 (by decide) ?_
    refine x_put (ws' := [(h_t, .inr (1, [.ref h_t_sketch, .int t_nodes, .int t_allBits, .int t_isTest, .int t_isBeaten, .int t_isStudy, .long t_order, .int x1, .int (0 : Int32), .long t_order, .long (0 : Int64), .int t_stillEdges]))]) X inGX2 tyX2_ok nmX2 10 (by decide) rfl tw_247 dX2_arrive_35 rfl rfl 0 rfl rfl rfl (Nat.le_of_ble_eq_true rfl) rfl ?_
    refine x_aload_n X dX2_arrive_38 0 rfl ?_
    refine x_iconst (v := 0) X dX2_arrive_39 (by decide) ?_
    refine x_put (ws' := [(h_t, .inr (1, [.ref h_t_sketch, .int t_nodes, .int t_allBits, .int t_isTest, .int t_isBeaten, .int t_isStudy, .long t_order, .int x1, .int (0 : Int32), .long t_order, .long (0 : Int64), .int (0 : Int32)]))]) X inGX2 tyX2_ok nmX2 11 (by decide) rfl tw_248 dX2_arrive_40 rfl rfl 0 rfl rfl rfl (Nat.le_of_ble_eq_true rfl) rfl ?_
    exact x_sub X [0, 1] rfl (k43 x1 t_order x1 (0 : Int64) (0 : Int32) (0 : Int32) h)
  refine x_iload_n X dX2_arrive_0 1 rfl ?_
  refine x_aload_n X dX2_arrive_1 0 rfl ?_
  refine x_get X inGX2 7 (by decide) rfl tw_241 dX2_arrive_2 rfl 0 rfl rfl ?_
  refine x_icmp_lt (tgt := 15) X dX2_arrive_5 (by decide) (fun hc => ?_) (fun hc => ?_)
  · have h := h.1 hc
    exact x_sub X [0, 1] rfl (k15 p1 t_firstOrder t_least t_seen t_stillEdges t_symmetries h)
  · have h := h.2 hc
    refine x_aload_n X dX2_arrive_8 0 rfl ?_
    refine x_get X inGX2 8 (by decide) rfl tw_243 dX2_arrive_9 rfl 0 rfl rfl ?_
    refine x_if_ne (tgt := 43) X dX2_arrive_12 (by decide) (fun hc => ?_) (fun hc => ?_)
    · have h := h.1 hc
      exact x_sub X [0, 1] rfl (k43 p1 t_firstOrder t_least t_seen t_stillEdges t_symmetries h)
    · have h := h.2 hc
      exact x_sub X [0, 1] rfl (k15 p1 t_firstOrder t_least t_seen t_stillEdges t_symmetries h)
theorem dX2_seenAt_0 : decode cX2_seenAt 0 = .ok (.aload_n 0, 1) := by decide +kernel
theorem dX2_seenAt_1 : decode cX2_seenAt 1 = .ok (.getfield 86, 3) := by decide +kernel
theorem dX2_seenAt_4 : decode cX2_seenAt 4 = .ok (.bipush 6, 2) := by decide +kernel
theorem dX2_seenAt_6 : decode cX2_seenAt 6 = .ok (.iload_n 1, 1) := by decide +kernel
theorem dX2_seenAt_7 : decode cX2_seenAt 7 = .ok (.imul, 1) := by decide +kernel
theorem dX2_seenAt_8 : decode cX2_seenAt 8 = .ok (.lshr, 1) := by decide +kernel
theorem dX2_seenAt_9 : decode cX2_seenAt 9 = .ok (.l2i, 1) := by decide +kernel
theorem dX2_seenAt_10 : decode cX2_seenAt 10 = .ok (.bipush 63, 2) := by decide +kernel
theorem dX2_seenAt_12 : decode cX2_seenAt 12 = .ok (.iand, 1) := by decide +kernel
theorem dX2_seenAt_13 : decode cX2_seenAt 13 = .ok (.ireturn, 1) := by decide +kernel
set_option maxHeartbeats 4000000 in
set_option maxRecDepth 100000 in
theorem c_X2_seenAt (l : Launch) (D : va_G) (T : Nat → ClassId) (h_t h_t_sketch : Nat) (t_allBits : Int32) (t_firstOrder : Int64) (t_isBeaten : Int32) (t_isStudy : Int32) (t_isTest : Int32) (t_least : Int32) (t_nodes : Int32) (t_order : Int64) (t_seen : Int64) (t_stillEdges : Int32) (t_symmetries : Int32) (p1 : Int32) (post : Int32 → Prop) (h : F_X2_seenAt t_seen p1 post) : cI l D T yX2_seenAt cX2_seenAt 2 (some .int) 0 0 0 0 [.ref h_t, .int p1] [(h_t, .inr (1, [.ref h_t_sketch, .int t_nodes, .int t_allBits, .int t_isTest, .int t_isBeaten, .int t_isStudy, .long t_order, .int t_least, .int t_symmetries, .long t_firstOrder, .long t_seen, .int t_stillEdges]))] (fun r w1 => w1 = [(h_t, .inr (1, [.ref h_t_sketch, .int t_nodes, .int t_allBits, .int t_isTest, .int t_isBeaten, .int t_isStudy, .long t_order, .int t_least, .int t_symmetries, .long t_firstOrder, .long t_seen, .int t_stillEdges]))] ∧ post r ) := by
  refine xI_of (ty := .int) (by decide +kernel) (Nat.le_of_ble_eq_true rfl) rfl ?_
  intro G X hret
  change G 0 0 0 [(0, .ref h_t), (1, .int p1)] [] [(h_t, .inr (1, [.ref h_t_sketch, .int t_nodes, .int t_allBits, .int t_isTest, .int t_isBeaten, .int t_isStudy, .long t_order, .int t_least, .int t_symmetries, .long t_firstOrder, .long t_seen, .int t_stillEdges]))]
  unfold F_X2_seenAt at h
  refine x_aload_n X dX2_seenAt_0 0 rfl ?_
  refine x_get X inGX2 10 (by decide) rfl tw_247 dX2_seenAt_1 rfl 0 rfl rfl ?_
  refine x_bipush (v := 6) X dX2_seenAt_4 (by decide) ?_
  refine x_iload_n X dX2_seenAt_6 1 rfl ?_
  refine x_imul X dX2_seenAt_7 ?_
  refine x_lshr X dX2_seenAt_8 ?_
  refine x_l2i X dX2_seenAt_9 ?_
  refine x_bipush (v := 63) X dX2_seenAt_10 (by decide) ?_
  refine x_iand X dX2_seenAt_12 ?_
  exact hret _ _ _ _ dX2_seenAt_13 rfl ⟨rfl, h⟩
theorem dX2_leastSeenWith_0 : decode cX2_leastSeenWith 0 = .ok (.iconst 0, 1) := by decide +kernel
theorem dX2_leastSeenWith_1 : decode cX2_leastSeenWith 1 = .ok (.istore_n 2, 1) := by decide +kernel
theorem dX2_leastSeenWith_2 : decode cX2_leastSeenWith 2 = .ok (.iload_n 2, 1) := by decide +kernel
theorem dX2_leastSeenWith_3 : decode cX2_leastSeenWith 3 = .ok (.aload_n 0, 1) := by decide +kernel
theorem dX2_leastSeenWith_4 : decode cX2_leastSeenWith 4 = .ok (.getfield 61, 3) := by decide +kernel
theorem dX2_leastSeenWith_7 : decode cX2_leastSeenWith 7 = .ok (.if_icmp .ge 31, 3) := by decide +kernel
theorem dX2_leastSeenWith_10 : decode cX2_leastSeenWith 10 = .ok (.aload_n 0, 1) := by decide +kernel
theorem dX2_leastSeenWith_11 : decode cX2_leastSeenWith 11 = .ok (.iload_n 2, 1) := by decide +kernel
theorem dX2_leastSeenWith_12 : decode cX2_leastSeenWith 12 = .ok (.invokevirtual 67, 3) := by decide +kernel
theorem dX2_leastSeenWith_15 : decode cX2_leastSeenWith 15 = .ok (.iload_n 1, 1) := by decide +kernel
theorem dX2_leastSeenWith_16 : decode cX2_leastSeenWith 16 = .ok (.ishr, 1) := by decide +kernel
theorem dX2_leastSeenWith_17 : decode cX2_leastSeenWith 17 = .ok (.iconst 1, 1) := by decide +kernel
theorem dX2_leastSeenWith_18 : decode cX2_leastSeenWith 18 = .ok (.iand, 1) := by decide +kernel
theorem dX2_leastSeenWith_19 : decode cX2_leastSeenWith 19 = .ok (.iconst 1, 1) := by decide +kernel
theorem dX2_leastSeenWith_20 : decode cX2_leastSeenWith 20 = .ok (.if_icmp .ne 12, 3) := by decide +kernel
theorem dX2_leastSeenWith_23 : decode cX2_leastSeenWith 23 = .ok (.aload_n 0, 1) := by decide +kernel
theorem dX2_leastSeenWith_24 : decode cX2_leastSeenWith 24 = .ok (.iload_n 2, 1) := by decide +kernel
theorem dX2_leastSeenWith_25 : decode cX2_leastSeenWith 25 = .ok (.invokevirtual 67, 3) := by decide +kernel
theorem dX2_leastSeenWith_28 : decode cX2_leastSeenWith 28 = .ok (.invokestatic 89, 3) := by decide +kernel
theorem dX2_leastSeenWith_31 : decode cX2_leastSeenWith 31 = .ok (.ireturn, 1) := by decide +kernel
theorem dX2_leastSeenWith_32 : decode cX2_leastSeenWith 32 = .ok (.iinc 2 1, 3) := by decide +kernel
theorem dX2_leastSeenWith_35 : decode cX2_leastSeenWith 35 = .ok (.goto (-33), 3) := by decide +kernel
theorem dX2_leastSeenWith_38 : decode cX2_leastSeenWith 38 = .ok (.iload_n 1, 1) := by decide +kernel
theorem dX2_leastSeenWith_39 : decode cX2_leastSeenWith 39 = .ok (.ireturn, 1) := by decide +kernel
set_option maxHeartbeats 4000000 in
set_option maxRecDepth 100000 in
theorem c_X2_leastSeenWith (l : Launch) (D : va_G) (T : Nat → ClassId) (h_t h_t_sketch : Nat) (t_allBits : Int32) (t_firstOrder : Int64) (t_isBeaten : Int32) (t_isStudy : Int32) (t_isTest : Int32) (t_least : Int32) (t_nodes : Int32) (t_order : Int64) (t_seen : Int64) (t_stillEdges : Int32) (t_symmetries : Int32) (p1 : Int32) (post : Int32 → Prop) (h : F_X2_leastSeenWith t_nodes t_seen p1 post) : cI l D T yX2_leastSeenWith cX2_leastSeenWith 3 (some .int) 1 21 0 0 [.ref h_t, .int p1] [(h_t, .inr (1, [.ref h_t_sketch, .int t_nodes, .int t_allBits, .int t_isTest, .int t_isBeaten, .int t_isStudy, .long t_order, .int t_least, .int t_symmetries, .long t_firstOrder, .long t_seen, .int t_stillEdges]))] (fun r w1 => w1 = [(h_t, .inr (1, [.ref h_t_sketch, .int t_nodes, .int t_allBits, .int t_isTest, .int t_isBeaten, .int t_isStudy, .long t_order, .int t_least, .int t_symmetries, .long t_firstOrder, .long t_seen, .int t_stillEdges]))] ∧ post r ) := by
  refine xI_of (ty := .int) (by decide +kernel) (Nat.le_of_ble_eq_true rfl) rfl ?_
  intro G X hret
  change G 0 0 0 [(0, .ref h_t), (1, .int p1)] [] [(h_t, .inr (1, [.ref h_t_sketch, .int t_nodes, .int t_allBits, .int t_isTest, .int t_isBeaten, .int t_isStudy, .long t_order, .int t_least, .int t_symmetries, .long t_firstOrder, .long t_seen, .int t_stillEdges]))]
  unfold F_X2_leastSeenWith at h
  have k2 : ∀ (n2 : Nat) (x1 : Int32) (x2 : Int32), F_X2_leastSeenWith_2 t_nodes t_seen post n2 x1 x2 → G 0 0 2 [(0, .ref h_t), (1, .int x1), (2, .int x2)] [] [(h_t, .inr (1, [.ref h_t_sketch, .int t_nodes, .int t_allBits, .int t_isTest, .int t_isBeaten, .int t_isStudy, .long t_order, .int t_least, .int t_symmetries, .long t_firstOrder, .long t_seen, .int t_stillEdges]))] := by
    intro n2
    induction n2 with
    | zero => intro x1 x2 h; exact h.elim
    | succ n2 ih2 =>
      intro x1 x2 h
      rw [F_X2_leastSeenWith_2] at h
      refine x_iload_n X dX2_leastSeenWith_2 2 rfl ?_
      refine x_aload_n X dX2_leastSeenWith_3 0 rfl ?_
      refine x_get X inGX2 1 (by decide) rfl tw_234 dX2_leastSeenWith_4 rfl 0 rfl rfl ?_
      refine x_icmp_ge (tgt := 38) X dX2_leastSeenWith_7 (by decide) (fun hc => ?_) (fun hc => ?_)
      · have h := h.1 hc
        refine x_iload_n X dX2_leastSeenWith_38 1 rfl ?_
        exact hret _ _ _ _ dX2_leastSeenWith_39 rfl ⟨rfl, h⟩
      · have h := h.2 hc
        refine x_aload_n X dX2_leastSeenWith_10 0 rfl ?_
        refine x_iload_n X dX2_leastSeenWith_11 2 rfl ?_
        refine x_callVI (av := [.int x2]) (st := []) (wr := []) X (c_X2_seenAt l D T h_t h_t_sketch t_allBits t_firstOrder t_isBeaten t_isStudy t_isTest t_least t_nodes t_order t_seen t_stillEdges t_symmetries x2 _ h) yk_X2_seenAt tw_929 dX2_leastSeenWith_12 0 rfl rfl [0] [] rfl rfl rfl rfl (by decide) rfl rfl (Nat.le_of_ble_eq_true rfl) (Nat.le_of_ble_eq_true rfl) (Nat.le_of_ble_eq_true rfl) (Nat.zero_le _) (Nat.zero_le _) (fun r12 w1 hw => ?_)
        obtain ⟨rfl, h⟩ := hw
        refine x_perm (ws2 := [(h_t, .inr (1, [.ref h_t_sketch, .int t_nodes, .int t_allBits, .int t_isTest, .int t_isBeaten, .int t_isStudy, .long t_order, .int t_least, .int t_symmetries, .long t_firstOrder, .long t_seen, .int t_stillEdges]))]) X [0] rfl rfl ?_
        refine x_iload_n X dX2_leastSeenWith_15 1 rfl ?_
        refine x_ishr X dX2_leastSeenWith_16 ?_
        refine x_iconst (v := 1) X dX2_leastSeenWith_17 (by decide) ?_
        refine x_iand X dX2_leastSeenWith_18 ?_
        refine x_iconst (v := 1) X dX2_leastSeenWith_19 (by decide) ?_
        refine x_icmp_ne (tgt := 32) X dX2_leastSeenWith_20 (by decide) (fun hc => ?_) (fun hc => ?_)
        · have h := h.1 hc
          refine x_iinc (v := (x2 + 1)) (lv' := [(2, .int (x2 + 1)), (0, .ref h_t), (1, .int x1)]) X dX2_leastSeenWith_32 2 rfl rfl (by decide) rfl ?_
          refine x_goto (tgt := 2) X dX2_leastSeenWith_35 (by decide) ?_
          exact x_sub X [1, 2, 0] rfl (ih2 x1 (x2 + 1) h)
        · have h := h.2 hc
          refine x_aload_n X dX2_leastSeenWith_23 0 rfl ?_
          refine x_iload_n X dX2_leastSeenWith_24 2 rfl ?_
          refine x_callVI (av := [.int x2]) (st := []) (wr := []) X (c_X2_seenAt l D T h_t h_t_sketch t_allBits t_firstOrder t_isBeaten t_isStudy t_isTest t_least t_nodes t_order t_seen t_stillEdges t_symmetries x2 _ h) yk_X2_seenAt tw_929 dX2_leastSeenWith_25 0 rfl rfl [0] [] rfl rfl rfl rfl (by decide) rfl rfl (Nat.le_of_ble_eq_true rfl) (Nat.le_of_ble_eq_true rfl) (Nat.le_of_ble_eq_true rfl) (Nat.zero_le _) (Nat.zero_le _) (fun r25 w1 hw => ?_)
          obtain ⟨rfl, h⟩ := hw
          refine x_perm (ws2 := [(h_t, .inr (1, [.ref h_t_sketch, .int t_nodes, .int t_allBits, .int t_isTest, .int t_isBeaten, .int t_isStudy, .long t_order, .int t_least, .int t_symmetries, .long t_firstOrder, .long t_seen, .int t_stillEdges]))]) X [0] rfl rfl ?_
          refine x_callSI (av := [.int r25]) (st := []) (wr := [(h_t, .inr (1, [.ref h_t_sketch, .int t_nodes, .int t_allBits, .int t_isTest, .int t_isBeaten, .int t_isStudy, .long t_order, .int t_least, .int t_symmetries, .long t_firstOrder, .long t_seen, .int t_stillEdges]))]) X (c_X7_lowest l D T r25 _ h) yk_X7_lowest tw_933 dX2_leastSeenWith_28 [] [0] rfl rfl rfl rfl (by decide) rfl rfl (Nat.le_of_ble_eq_true rfl) (Nat.le_of_ble_eq_true rfl) (Nat.le_of_ble_eq_true rfl) (Nat.zero_le _) (Nat.zero_le _) (fun r28 w1 hw => ?_)
          obtain ⟨rfl, h⟩ := hw
          refine x_perm (ws2 := [(h_t, .inr (1, [.ref h_t_sketch, .int t_nodes, .int t_allBits, .int t_isTest, .int t_isBeaten, .int t_isStudy, .long t_order, .int t_least, .int t_symmetries, .long t_firstOrder, .long t_seen, .int t_stillEdges]))]) X [0] rfl rfl ?_
          exact hret _ _ _ _ dX2_leastSeenWith_31 rfl ⟨rfl, h⟩
  refine x_iconst (v := 0) X dX2_leastSeenWith_0 (by decide) ?_
  refine x_istore_n (lv' := [(2, .int (0 : Int32)), (0, .ref h_t), (1, .int p1)]) X dX2_leastSeenWith_1 (by decide) rfl ?_
  obtain ⟨n2, h⟩ := h
  exact x_sub X [1, 2, 0] rfl (k2 n2 p1 (0 : Int32) h)
