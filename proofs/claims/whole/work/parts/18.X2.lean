/-! OrderlyNets$Forms: decode rows (printed), and each method kept by its F -/
theorem dX2_nodeAt_0 : decode cX2_nodeAt 0 = .ok (.lload_n 0, 1) := by decide +kernel
theorem dX2_nodeAt_1 : decode cX2_nodeAt 1 = .ok (.iconst 3, 1) := by decide +kernel
theorem dX2_nodeAt_2 : decode cX2_nodeAt 2 = .ok (.iload_n 2, 1) := by decide +kernel
theorem dX2_nodeAt_3 : decode cX2_nodeAt 3 = .ok (.imul, 1) := by decide +kernel
theorem dX2_nodeAt_4 : decode cX2_nodeAt 4 = .ok (.lshr, 1) := by decide +kernel
theorem dX2_nodeAt_5 : decode cX2_nodeAt 5 = .ok (.l2i, 1) := by decide +kernel
theorem dX2_nodeAt_6 : decode cX2_nodeAt 6 = .ok (.bipush 7, 2) := by decide +kernel
theorem dX2_nodeAt_8 : decode cX2_nodeAt 8 = .ok (.iand, 1) := by decide +kernel
theorem dX2_nodeAt_9 : decode cX2_nodeAt 9 = .ok (.ireturn, 1) := by decide +kernel
set_option maxHeartbeats 4000000 in
set_option maxRecDepth 100000 in
theorem c_X2_nodeAt (l : Launch) (D : eD) (T : Nat → ClassId)  (p0 : Int64) (p1 : Int32) (post : Int32 → Prop) (h : F_X2_nodeAt p0 p1 post) : cI l D T yX2_nodeAt cX2_nodeAt 3 (some .int) 0 0 0 0 [.long p0, .int p1] [] (fun r w1 => w1 = [] ∧ post r ) := by
  refine xI_of (ty := .int) (by decide +kernel) (Nat.le_of_ble_eq_true rfl) rfl ?_
  intro G X hret
  change G 0 0 0 [(0, .long p0), (2, .int p1)] [] []
  unfold F_X2_nodeAt at h
  refine x_lload_n X dX2_nodeAt_0 0 rfl ?_
  refine x_iconst (v := 3) X dX2_nodeAt_1 (by decide) ?_
  refine x_iload_n X dX2_nodeAt_2 1 rfl ?_
  refine x_imul X dX2_nodeAt_3 ?_
  refine x_lshr X dX2_nodeAt_4 ?_
  refine x_l2i X dX2_nodeAt_5 ?_
  refine x_bipush (v := 7) X dX2_nodeAt_6 (by decide) ?_
  refine x_iand X dX2_nodeAt_8 ?_
  exact hret _ _ _ _ dX2_nodeAt_9 rfl ⟨rfl, h⟩
theorem dX2_begin_0 : decode cX2_begin 0 = .ok (.aload_n 0, 1) := by decide +kernel
theorem dX2_begin_1 : decode cX2_begin 1 = .ok (.getfield 10, 3) := by decide +kernel
theorem dX2_begin_4 : decode cX2_begin 4 = .ok (.iload_n 1, 1) := by decide +kernel
theorem dX2_begin_5 : decode cX2_begin 5 = .ok (.iload_n 2, 1) := by decide +kernel
theorem dX2_begin_6 : decode cX2_begin 6 = .ok (.invokevirtual 73, 3) := by decide +kernel
theorem dX2_begin_9 : decode cX2_begin 9 = .ok (.aload_n 0, 1) := by decide +kernel
theorem dX2_begin_10 : decode cX2_begin 10 = .ok (.aload_n 0, 1) := by decide +kernel
theorem dX2_begin_11 : decode cX2_begin 11 = .ok (.getfield 10, 3) := by decide +kernel
theorem dX2_begin_14 : decode cX2_begin 14 = .ok (.getfield 76, 3) := by decide +kernel
theorem dX2_begin_17 : decode cX2_begin 17 = .ok (.putfield 61, 3) := by decide +kernel
theorem dX2_begin_20 : decode cX2_begin 20 = .ok (.aload_n 0, 1) := by decide +kernel
theorem dX2_begin_21 : decode cX2_begin 21 = .ok (.aload_n 0, 1) := by decide +kernel
theorem dX2_begin_22 : decode cX2_begin 22 = .ok (.getfield 61, 3) := by decide +kernel
theorem dX2_begin_25 : decode cX2_begin 25 = .ok (.invokestatic 77, 3) := by decide +kernel
theorem dX2_begin_28 : decode cX2_begin 28 = .ok (.putfield 80, 3) := by decide +kernel
theorem dX2_begin_31 : decode cX2_begin 31 = .ok (.aload_n 0, 1) := by decide +kernel
theorem dX2_begin_32 : decode cX2_begin 32 = .ok (.iconst 0, 1) := by decide +kernel
theorem dX2_begin_33 : decode cX2_begin 33 = .ok (.putfield 20, 3) := by decide +kernel
theorem dX2_begin_36 : decode cX2_begin 36 = .ok (.aload_n 0, 1) := by decide +kernel
theorem dX2_begin_37 : decode cX2_begin 37 = .ok (.iconst 0, 1) := by decide +kernel
theorem dX2_begin_38 : decode cX2_begin 38 = .ok (.putfield 36, 3) := by decide +kernel
theorem dX2_begin_41 : decode cX2_begin 41 = .ok (.aload_n 0, 1) := by decide +kernel
theorem dX2_begin_42 : decode cX2_begin 42 = .ok (.iconst 0, 1) := by decide +kernel
theorem dX2_begin_43 : decode cX2_begin 43 = .ok (.putfield 83, 3) := by decide +kernel
theorem dX2_begin_46 : decode cX2_begin 46 = .ok (.aload_n 0, 1) := by decide +kernel
theorem dX2_begin_47 : decode cX2_begin 47 = .ok (.iconst 1, 1) := by decide +kernel
theorem dX2_begin_48 : decode cX2_begin 48 = .ok (.aload_n 0, 1) := by decide +kernel
theorem dX2_begin_49 : decode cX2_begin 49 = .ok (.getfield 80, 3) := by decide +kernel
theorem dX2_begin_52 : decode cX2_begin 52 = .ok (.ishl, 1) := by decide +kernel
theorem dX2_begin_53 : decode cX2_begin 53 = .ok (.iconst 1, 1) := by decide +kernel
theorem dX2_begin_54 : decode cX2_begin 54 = .ok (.isub, 1) := by decide +kernel
theorem dX2_begin_55 : decode cX2_begin 55 = .ok (.putfield 24, 3) := by decide +kernel
theorem dX2_begin_58 : decode cX2_begin 58 = .ok (.aload_n 0, 1) := by decide +kernel
theorem dX2_begin_59 : decode cX2_begin 59 = .ok (.iconst 0, 1) := by decide +kernel
theorem dX2_begin_60 : decode cX2_begin 60 = .ok (.putfield 43, 3) := by decide +kernel
theorem dX2_begin_63 : decode cX2_begin 63 = .ok (.return_, 1) := by decide +kernel
set_option maxHeartbeats 4000000 in
set_option maxRecDepth 100000 in
theorem c_X2_begin (l : Launch) (D : eD) (T : Nat → ClassId) (h_t h_t_sketch h_t_sketch_near h_t_sketch_fans : Nat) (t_allBits : Int32) (t_firstOrder : Int64) (t_isBeaten : Int32) (t_isStudy : Int32) (t_isTest : Int32) (t_least : Int32) (t_nodes : Int32) (t_order : Int64) (t_seen : Int64) (t_stillEdges : Int32) (t_symmetries : Int32) (t_sketch_colours : Int64) (t_sketch_darks : Int32) (t_sketch_nodes : Int32) (t_sketch_fans : Nat → Int64) (t_sketch_near : Nat → Int32) (p1 : Int32) (p2 : Int32) (post : Int32 → Int32 → Int32 → Int32 → Int32 → Int32 → Int32 → Int64 → Int32 → Int32 → (Nat → Int64) → (Nat → Int32) → Prop) (h : F_X2_begin t_allBits t_isBeaten t_isStudy t_isTest t_least t_nodes t_symmetries t_sketch_colours t_sketch_darks t_sketch_nodes t_sketch_fans t_sketch_near p1 p2 post) : cV l D T yX2_begin cX2_begin 3 none 2 76 0 0 [.ref h_t, .int p1, .int p2] [(h_t, .inr (1, [.ref h_t_sketch, .int t_nodes, .int t_allBits, .int t_isTest, .int t_isBeaten, .int t_isStudy, .long t_order, .int t_least, .int t_symmetries, .long t_firstOrder, .long t_seen, .int t_stillEdges])), (h_t_sketch, .inr (6, [.ref h_t_sketch_near, .ref h_t_sketch_fans, .int t_sketch_nodes, .int t_sketch_darks, .long t_sketch_colours])), (h_t_sketch_fans, aJ T 6 t_sketch_fans), (h_t_sketch_near, aI T 6 t_sketch_near)] (fun w1 => ∃ (t_allBits1 : Int32) (t_isBeaten1 : Int32) (t_isStudy1 : Int32) (t_isTest1 : Int32) (t_least1 : Int32) (t_nodes1 : Int32) (t_symmetries1 : Int32) (t_sketch_colours1 : Int64) (t_sketch_darks1 : Int32) (t_sketch_nodes1 : Int32) (t_sketch_fans1 : Nat → Int64) (t_sketch_near1 : Nat → Int32), w1 = [(h_t, .inr (1, [.ref h_t_sketch, .int t_nodes1, .int t_allBits1, .int t_isTest1, .int t_isBeaten1, .int t_isStudy1, .long t_order, .int t_least1, .int t_symmetries1, .long t_firstOrder, .long t_seen, .int t_stillEdges])), (h_t_sketch, .inr (6, [.ref h_t_sketch_near, .ref h_t_sketch_fans, .int t_sketch_nodes1, .int t_sketch_darks1, .long t_sketch_colours1])), (h_t_sketch_fans, aJ T 6 t_sketch_fans1), (h_t_sketch_near, aI T 6 t_sketch_near1)] ∧ post t_allBits1 t_isBeaten1 t_isStudy1 t_isTest1 t_least1 t_nodes1 t_symmetries1 t_sketch_colours1 t_sketch_darks1 t_sketch_nodes1 t_sketch_fans1 t_sketch_near1) := by
  refine xV_of (by decide +kernel) (Nat.le_of_ble_eq_true rfl) rfl ?_
  intro G X hret
  change G 0 0 0 [(0, .ref h_t), (1, .int p1), (2, .int p2)] [] [(h_t, .inr (1, [.ref h_t_sketch, .int t_nodes, .int t_allBits, .int t_isTest, .int t_isBeaten, .int t_isStudy, .long t_order, .int t_least, .int t_symmetries, .long t_firstOrder, .long t_seen, .int t_stillEdges])), (h_t_sketch, .inr (6, [.ref h_t_sketch_near, .ref h_t_sketch_fans, .int t_sketch_nodes, .int t_sketch_darks, .long t_sketch_colours])), (h_t_sketch_fans, aJ T 6 t_sketch_fans), (h_t_sketch_near, aI T 6 t_sketch_near)]
  unfold F_X2_begin at h
  refine x_aload_n X dX2_begin_0 0 rfl ?_
  refine x_get X inGX2 0 (by decide) rfl tw_233 dX2_begin_1 rfl 0 rfl rfl ?_
  refine x_iload_n X dX2_begin_4 1 rfl ?_
  refine x_iload_n X dX2_begin_5 2 rfl ?_
  refine x_callVV (av := [.int p1, .int p2]) (st := []) (wr := [(h_t, .inr (1, [.ref h_t_sketch, .int t_nodes, .int t_allBits, .int t_isTest, .int t_isBeaten, .int t_isStudy, .long t_order, .int t_least, .int t_symmetries, .long t_firstOrder, .long t_seen, .int t_stillEdges]))]) X (c_X7_draw l D T h_t_sketch h_t_sketch_near h_t_sketch_fans t_sketch_colours t_sketch_darks t_sketch_nodes t_sketch_fans t_sketch_near p1 p2 _ h) yk_X7_draw tw_348 dX2_begin_6 1 rfl rfl [1, 2, 3] [0] rfl rfl rfl rfl (by decide) rfl rfl (Nat.le_of_ble_eq_true rfl) (Nat.le_of_ble_eq_true rfl) (Nat.le_of_ble_eq_true rfl) (Nat.zero_le _) (Nat.zero_le _) (fun w1 hw => ?_)
  obtain ⟨t_sketch_colours_6, t_sketch_darks_6, t_sketch_nodes_6, t_sketch_fans_6, t_sketch_near_6, rfl, h⟩ := hw
  refine x_perm (ws2 := [(h_t, .inr (1, [.ref h_t_sketch, .int t_nodes, .int t_allBits, .int t_isTest, .int t_isBeaten, .int t_isStudy, .long t_order, .int t_least, .int t_symmetries, .long t_firstOrder, .long t_seen, .int t_stillEdges])), (h_t_sketch, .inr (6, [.ref h_t_sketch_near, .ref h_t_sketch_fans, .int t_sketch_nodes_6, .int t_sketch_darks_6, .long t_sketch_colours_6])), (h_t_sketch_fans, aJ T 6 t_sketch_fans_6), (h_t_sketch_near, aI T 6 t_sketch_near_6)]) X [0, 1, 2, 3] rfl rfl ?_
  refine x_aload_n X dX2_begin_9 0 rfl ?_
  refine x_aload_n X dX2_begin_10 0 rfl ?_
  refine x_get X inGX2 0 (by decide) rfl tw_233 dX2_begin_11 rfl 0 rfl rfl ?_
  refine x_getN X inGX7 2 (by decide) rfl tw_215 dX2_begin_14 rfl 1 rfl rfl ?_
  refine x_put (ws' := [(h_t, .inr (1, [.ref h_t_sketch, .int t_sketch_nodes_6, .int t_allBits, .int t_isTest, .int t_isBeaten, .int t_isStudy, .long t_order, .int t_least, .int t_symmetries, .long t_firstOrder, .long t_seen, .int t_stillEdges])), (h_t_sketch, .inr (6, [.ref h_t_sketch_near, .ref h_t_sketch_fans, .int t_sketch_nodes_6, .int t_sketch_darks_6, .long t_sketch_colours_6])), (h_t_sketch_fans, aJ T 6 t_sketch_fans_6), (h_t_sketch_near, aI T 6 t_sketch_near_6)]) X inGX2 tyX2_ok nmX2 1 (by decide) rfl tw_234 dX2_begin_17 rfl rfl 0 rfl rfl rfl (Nat.le_of_ble_eq_true rfl) rfl ?_
  refine x_aload_n X dX2_begin_20 0 rfl ?_
  refine x_aload_n X dX2_begin_21 0 rfl ?_
  refine x_get X inGX2 1 (by decide) rfl tw_234 dX2_begin_22 rfl 0 rfl rfl ?_
  refine x_callSI (av := [.int t_sketch_nodes_6]) (st := [.ref h_t]) (wr := [(h_t, .inr (1, [.ref h_t_sketch, .int t_sketch_nodes_6, .int t_allBits, .int t_isTest, .int t_isBeaten, .int t_isStudy, .long t_order, .int t_least, .int t_symmetries, .long t_firstOrder, .long t_seen, .int t_stillEdges])), (h_t_sketch, .inr (6, [.ref h_t_sketch_near, .ref h_t_sketch_fans, .int t_sketch_nodes_6, .int t_sketch_darks_6, .long t_sketch_colours_6])), (h_t_sketch_fans, aJ T 6 t_sketch_fans_6), (h_t_sketch_near, aI T 6 t_sketch_near_6)]) X (c_X0_bits l D T  t_sketch_nodes_6 _ h) yk_X0_bits tw_362 dX2_begin_25 [] [0, 1, 2, 3] rfl rfl rfl rfl (by decide) rfl rfl (Nat.le_of_ble_eq_true rfl) (Nat.le_of_ble_eq_true rfl) (Nat.le_of_ble_eq_true rfl) (Nat.zero_le _) (Nat.zero_le _) (fun r25 w1 hw => ?_)
  obtain ⟨rfl, h⟩ := hw
  refine x_perm (ws2 := [(h_t, .inr (1, [.ref h_t_sketch, .int t_sketch_nodes_6, .int t_allBits, .int t_isTest, .int t_isBeaten, .int t_isStudy, .long t_order, .int t_least, .int t_symmetries, .long t_firstOrder, .long t_seen, .int t_stillEdges])), (h_t_sketch, .inr (6, [.ref h_t_sketch_near, .ref h_t_sketch_fans, .int t_sketch_nodes_6, .int t_sketch_darks_6, .long t_sketch_colours_6])), (h_t_sketch_fans, aJ T 6 t_sketch_fans_6), (h_t_sketch_near, aI T 6 t_sketch_near_6)]) X [0, 1, 2, 3] rfl rfl ?_
  refine x_put (ws' := [(h_t, .inr (1, [.ref h_t_sketch, .int t_sketch_nodes_6, .int r25, .int t_isTest, .int t_isBeaten, .int t_isStudy, .long t_order, .int t_least, .int t_symmetries, .long t_firstOrder, .long t_seen, .int t_stillEdges])), (h_t_sketch, .inr (6, [.ref h_t_sketch_near, .ref h_t_sketch_fans, .int t_sketch_nodes_6, .int t_sketch_darks_6, .long t_sketch_colours_6])), (h_t_sketch_fans, aJ T 6 t_sketch_fans_6), (h_t_sketch_near, aI T 6 t_sketch_near_6)]) X inGX2 tyX2_ok nmX2 2 (by decide) rfl tw_236 dX2_begin_28 rfl rfl 0 rfl rfl rfl (Nat.le_of_ble_eq_true rfl) rfl ?_
  refine x_aload_n X dX2_begin_31 0 rfl ?_
  refine x_iconst (v := 0) X dX2_begin_32 (by decide) ?_
  obtain ⟨hz, h⟩ := h
  refine x_put (ws' := [(h_t, .inr (1, [.ref h_t_sketch, .int t_sketch_nodes_6, .int r25, .int (0 : Int32), .int t_isBeaten, .int t_isStudy, .long t_order, .int t_least, .int t_symmetries, .long t_firstOrder, .long t_seen, .int t_stillEdges])), (h_t_sketch, .inr (6, [.ref h_t_sketch_near, .ref h_t_sketch_fans, .int t_sketch_nodes_6, .int t_sketch_darks_6, .long t_sketch_colours_6])), (h_t_sketch_fans, aJ T 6 t_sketch_fans_6), (h_t_sketch_near, aI T 6 t_sketch_near_6)]) X inGX2 tyX2_ok nmX2 3 (by decide) rfl tw_237 dX2_begin_33 rfl rfl 0 rfl (e_nz hz) (e_fz hz) (Nat.le_of_ble_eq_true rfl) rfl ?_
  refine x_aload_n X dX2_begin_36 0 rfl ?_
  refine x_iconst (v := 0) X dX2_begin_37 (by decide) ?_
  obtain ⟨hz, h⟩ := h
  refine x_put (ws' := [(h_t, .inr (1, [.ref h_t_sketch, .int t_sketch_nodes_6, .int r25, .int (0 : Int32), .int (0 : Int32), .int t_isStudy, .long t_order, .int t_least, .int t_symmetries, .long t_firstOrder, .long t_seen, .int t_stillEdges])), (h_t_sketch, .inr (6, [.ref h_t_sketch_near, .ref h_t_sketch_fans, .int t_sketch_nodes_6, .int t_sketch_darks_6, .long t_sketch_colours_6])), (h_t_sketch_fans, aJ T 6 t_sketch_fans_6), (h_t_sketch_near, aI T 6 t_sketch_near_6)]) X inGX2 tyX2_ok nmX2 4 (by decide) rfl tw_238 dX2_begin_38 rfl rfl 0 rfl (e_nz hz) (e_fz hz) (Nat.le_of_ble_eq_true rfl) rfl ?_
  refine x_aload_n X dX2_begin_41 0 rfl ?_
  refine x_iconst (v := 0) X dX2_begin_42 (by decide) ?_
  obtain ⟨hz, h⟩ := h
  refine x_put (ws' := [(h_t, .inr (1, [.ref h_t_sketch, .int t_sketch_nodes_6, .int r25, .int (0 : Int32), .int (0 : Int32), .int (0 : Int32), .long t_order, .int t_least, .int t_symmetries, .long t_firstOrder, .long t_seen, .int t_stillEdges])), (h_t_sketch, .inr (6, [.ref h_t_sketch_near, .ref h_t_sketch_fans, .int t_sketch_nodes_6, .int t_sketch_darks_6, .long t_sketch_colours_6])), (h_t_sketch_fans, aJ T 6 t_sketch_fans_6), (h_t_sketch_near, aI T 6 t_sketch_near_6)]) X inGX2 tyX2_ok nmX2 5 (by decide) rfl tw_239 dX2_begin_43 rfl rfl 0 rfl (e_nz hz) (e_fz hz) (Nat.le_of_ble_eq_true rfl) rfl ?_
  refine x_aload_n X dX2_begin_46 0 rfl ?_
  refine x_iconst (v := 1) X dX2_begin_47 (by decide) ?_
  refine x_aload_n X dX2_begin_48 0 rfl ?_
  refine x_get X inGX2 2 (by decide) rfl tw_236 dX2_begin_49 rfl 0 rfl rfl ?_
  refine x_ishl X dX2_begin_52 ?_
  refine x_iconst (v := 1) X dX2_begin_53 (by decide) ?_
  refine x_isub X dX2_begin_54 ?_
  refine x_put (ws' := [(h_t, .inr (1, [.ref h_t_sketch, .int t_sketch_nodes_6, .int r25, .int (0 : Int32), .int (0 : Int32), .int (0 : Int32), .long t_order, .int (((1 : Int32) <<< (r25 &&& 31)) - (1 : Int32)), .int t_symmetries, .long t_firstOrder, .long t_seen, .int t_stillEdges])), (h_t_sketch, .inr (6, [.ref h_t_sketch_near, .ref h_t_sketch_fans, .int t_sketch_nodes_6, .int t_sketch_darks_6, .long t_sketch_colours_6])), (h_t_sketch_fans, aJ T 6 t_sketch_fans_6), (h_t_sketch_near, aI T 6 t_sketch_near_6)]) X inGX2 tyX2_ok nmX2 7 (by decide) rfl tw_241 dX2_begin_55 rfl rfl 0 rfl rfl rfl (Nat.le_of_ble_eq_true rfl) rfl ?_
  refine x_aload_n X dX2_begin_58 0 rfl ?_
  refine x_iconst (v := 0) X dX2_begin_59 (by decide) ?_
  refine x_put (ws' := [(h_t, .inr (1, [.ref h_t_sketch, .int t_sketch_nodes_6, .int r25, .int (0 : Int32), .int (0 : Int32), .int (0 : Int32), .long t_order, .int (((1 : Int32) <<< (r25 &&& 31)) - (1 : Int32)), .int (0 : Int32), .long t_firstOrder, .long t_seen, .int t_stillEdges])), (h_t_sketch, .inr (6, [.ref h_t_sketch_near, .ref h_t_sketch_fans, .int t_sketch_nodes_6, .int t_sketch_darks_6, .long t_sketch_colours_6])), (h_t_sketch_fans, aJ T 6 t_sketch_fans_6), (h_t_sketch_near, aI T 6 t_sketch_near_6)]) X inGX2 tyX2_ok nmX2 8 (by decide) rfl tw_243 dX2_begin_60 rfl rfl 0 rfl rfl rfl (Nat.le_of_ble_eq_true rfl) rfl ?_
  exact hret _ _ _ dX2_begin_63 ⟨r25, (0 : Int32), (0 : Int32), (0 : Int32), (((1 : Int32) <<< (r25 &&& 31)) - (1 : Int32)), t_sketch_nodes_6, (0 : Int32), t_sketch_colours_6, t_sketch_darks_6, t_sketch_nodes_6, t_sketch_fans_6, t_sketch_near_6, rfl, h⟩
theorem dX2_arrive_0 : decode cX2_arrive 0 = .ok (.iload_n 1, 1) := by decide +kernel
theorem dX2_arrive_1 : decode cX2_arrive 1 = .ok (.aload_n 0, 1) := by decide +kernel
theorem dX2_arrive_2 : decode cX2_arrive 2 = .ok (.getfield 24, 3) := by decide +kernel
theorem dX2_arrive_5 : decode cX2_arrive 5 = .ok (.if_icmp .lt 10, 3) := by decide +kernel
theorem dX2_arrive_8 : decode cX2_arrive 8 = .ok (.aload_n 0, 1) := by decide +kernel
theorem dX2_arrive_9 : decode cX2_arrive 9 = .ok (.getfield 43, 3) := by decide +kernel
theorem dX2_arrive_12 : decode cX2_arrive 12 = .ok (.ifCond .ne 31, 3) := by decide +kernel
theorem dX2_arrive_15 : decode cX2_arrive 15 = .ok (.aload_n 0, 1) := by decide +kernel
theorem dX2_arrive_16 : decode cX2_arrive 16 = .ok (.iload_n 1, 1) := by decide +kernel
theorem dX2_arrive_17 : decode cX2_arrive 17 = .ok (.putfield 24, 3) := by decide +kernel
theorem dX2_arrive_20 : decode cX2_arrive 20 = .ok (.aload_n 0, 1) := by decide +kernel
theorem dX2_arrive_21 : decode cX2_arrive 21 = .ok (.iconst 0, 1) := by decide +kernel
theorem dX2_arrive_22 : decode cX2_arrive 22 = .ok (.putfield 43, 3) := by decide +kernel
theorem dX2_arrive_25 : decode cX2_arrive 25 = .ok (.aload_n 0, 1) := by decide +kernel
theorem dX2_arrive_26 : decode cX2_arrive 26 = .ok (.aload_n 0, 1) := by decide +kernel
theorem dX2_arrive_27 : decode cX2_arrive 27 = .ok (.getfield 104, 3) := by decide +kernel
theorem dX2_arrive_30 : decode cX2_arrive 30 = .ok (.putfield 115, 3) := by decide +kernel
theorem dX2_arrive_33 : decode cX2_arrive 33 = .ok (.aload_n 0, 1) := by decide +kernel
theorem dX2_arrive_34 : decode cX2_arrive 34 = .ok (.lconst 0, 1) := by decide +kernel
theorem dX2_arrive_35 : decode cX2_arrive 35 = .ok (.putfield 86, 3) := by decide +kernel
theorem dX2_arrive_38 : decode cX2_arrive 38 = .ok (.aload_n 0, 1) := by decide +kernel
theorem dX2_arrive_39 : decode cX2_arrive 39 = .ok (.iconst 0, 1) := by decide +kernel
theorem dX2_arrive_40 : decode cX2_arrive 40 = .ok (.putfield 70, 3) := by decide +kernel
theorem dX2_arrive_43 : decode cX2_arrive 43 = .ok (.aload_n 0, 1) := by decide +kernel
theorem dX2_arrive_44 : decode cX2_arrive 44 = .ok (.dup, 1) := by decide +kernel
theorem dX2_arrive_45 : decode cX2_arrive 45 = .ok (.getfield 43, 3) := by decide +kernel
theorem dX2_arrive_48 : decode cX2_arrive 48 = .ok (.iconst 1, 1) := by decide +kernel
theorem dX2_arrive_49 : decode cX2_arrive 49 = .ok (.iadd, 1) := by decide +kernel
theorem dX2_arrive_50 : decode cX2_arrive 50 = .ok (.putfield 43, 3) := by decide +kernel
theorem dX2_arrive_53 : decode cX2_arrive 53 = .ok (.aload_n 0, 1) := by decide +kernel
theorem dX2_arrive_54 : decode cX2_arrive 54 = .ok (.getfield 80, 3) := by decide +kernel
theorem dX2_arrive_57 : decode cX2_arrive 57 = .ok (.istore_n 2, 1) := by decide +kernel
theorem dX2_arrive_58 : decode cX2_arrive 58 = .ok (.iconst 0, 1) := by decide +kernel
theorem dX2_arrive_59 : decode cX2_arrive 59 = .ok (.istore_n 3, 1) := by decide +kernel
theorem dX2_arrive_60 : decode cX2_arrive 60 = .ok (.iload_n 3, 1) := by decide +kernel
theorem dX2_arrive_61 : decode cX2_arrive 61 = .ok (.aload_n 0, 1) := by decide +kernel
theorem dX2_arrive_62 : decode cX2_arrive 62 = .ok (.getfield 61, 3) := by decide +kernel
theorem dX2_arrive_65 : decode cX2_arrive 65 = .ok (.if_icmp .ge 160, 3) := by decide +kernel
theorem dX2_arrive_68 : decode cX2_arrive 68 = .ok (.aload_n 0, 1) := by decide +kernel
theorem dX2_arrive_69 : decode cX2_arrive 69 = .ok (.getfield 83, 3) := by decide +kernel
theorem dX2_arrive_72 : decode cX2_arrive 72 = .ok (.ifCond .eq 153, 3) := by decide +kernel
theorem dX2_arrive_75 : decode cX2_arrive 75 = .ok (.aload_n 0, 1) := by decide +kernel
theorem dX2_arrive_76 : decode cX2_arrive 76 = .ok (.getfield 104, 3) := by decide +kernel
theorem dX2_arrive_79 : decode cX2_arrive 79 = .ok (.iconst 3, 1) := by decide +kernel
theorem dX2_arrive_80 : decode cX2_arrive 80 = .ok (.iload_n 3, 1) := by decide +kernel
theorem dX2_arrive_81 : decode cX2_arrive 81 = .ok (.imul, 1) := by decide +kernel
theorem dX2_arrive_82 : decode cX2_arrive 82 = .ok (.lshr, 1) := by decide +kernel
theorem dX2_arrive_83 : decode cX2_arrive 83 = .ok (.ldc2_w 107, 3) := by decide +kernel
theorem dX2_arrive_86 : decode cX2_arrive 86 = .ok (.land, 1) := by decide +kernel
theorem dX2_arrive_87 : decode cX2_arrive 87 = .ok (.lstore 4, 2) := by decide +kernel
theorem dX2_arrive_89 : decode cX2_arrive 89 = .ok (.aload_n 0, 1) := by decide +kernel
theorem dX2_arrive_90 : decode cX2_arrive 90 = .ok (.getfield 115, 3) := by decide +kernel
theorem dX2_arrive_93 : decode cX2_arrive 93 = .ok (.iconst 3, 1) := by decide +kernel
theorem dX2_arrive_94 : decode cX2_arrive 94 = .ok (.iload_n 3, 1) := by decide +kernel
theorem dX2_arrive_95 : decode cX2_arrive 95 = .ok (.imul, 1) := by decide +kernel
theorem dX2_arrive_96 : decode cX2_arrive 96 = .ok (.lshr, 1) := by decide +kernel
theorem dX2_arrive_97 : decode cX2_arrive 97 = .ok (.ldc2_w 107, 3) := by decide +kernel
theorem dX2_arrive_100 : decode cX2_arrive 100 = .ok (.land, 1) := by decide +kernel
theorem dX2_arrive_101 : decode cX2_arrive 101 = .ok (.lstore 6, 2) := by decide +kernel
theorem dX2_arrive_103 : decode cX2_arrive 103 = .ok (.aload_n 0, 1) := by decide +kernel
theorem dX2_arrive_104 : decode cX2_arrive 104 = .ok (.dup, 1) := by decide +kernel
theorem dX2_arrive_105 : decode cX2_arrive 105 = .ok (.getfield 86, 3) := by decide +kernel
theorem dX2_arrive_108 : decode cX2_arrive 108 = .ok (.lconst 1, 1) := by decide +kernel
theorem dX2_arrive_109 : decode cX2_arrive 109 = .ok (.bipush 6, 2) := by decide +kernel
theorem dX2_arrive_111 : decode cX2_arrive 111 = .ok (.iload_n 3, 1) := by decide +kernel
theorem dX2_arrive_112 : decode cX2_arrive 112 = .ok (.imul, 1) := by decide +kernel
theorem dX2_arrive_113 : decode cX2_arrive 113 = .ok (.i2l, 1) := by decide +kernel
theorem dX2_arrive_114 : decode cX2_arrive 114 = .ok (.lload 4, 2) := by decide +kernel
theorem dX2_arrive_116 : decode cX2_arrive 116 = .ok (.ladd, 1) := by decide +kernel
theorem dX2_arrive_117 : decode cX2_arrive 117 = .ok (.l2i, 1) := by decide +kernel
theorem dX2_arrive_118 : decode cX2_arrive 118 = .ok (.lshl, 1) := by decide +kernel
theorem dX2_arrive_119 : decode cX2_arrive 119 = .ok (.lor, 1) := by decide +kernel
theorem dX2_arrive_120 : decode cX2_arrive 120 = .ok (.putfield 86, 3) := by decide +kernel
theorem dX2_arrive_123 : decode cX2_arrive 123 = .ok (.iinc 2 (-1), 3) := by decide +kernel
theorem dX2_arrive_126 : decode cX2_arrive 126 = .ok (.iconst 0, 1) := by decide +kernel
theorem dX2_arrive_127 : decode cX2_arrive 127 = .ok (.istore 8, 2) := by decide +kernel
theorem dX2_arrive_129 : decode cX2_arrive 129 = .ok (.iload 8, 2) := by decide +kernel
theorem dX2_arrive_131 : decode cX2_arrive 131 = .ok (.iload_n 3, 1) := by decide +kernel
theorem dX2_arrive_132 : decode cX2_arrive 132 = .ok (.if_icmp .ge 87, 3) := by decide +kernel
theorem dX2_arrive_135 : decode cX2_arrive 135 = .ok (.iinc 2 (-1), 3) := by decide +kernel
theorem dX2_arrive_138 : decode cX2_arrive 138 = .ok (.lconst 1, 1) := by decide +kernel
theorem dX2_arrive_139 : decode cX2_arrive 139 = .ok (.lload 4, 2) := by decide +kernel
theorem dX2_arrive_141 : decode cX2_arrive 141 = .ok (.l2i, 1) := by decide +kernel
theorem dX2_arrive_142 : decode cX2_arrive 142 = .ok (.lshl, 1) := by decide +kernel
theorem dX2_arrive_143 : decode cX2_arrive 143 = .ok (.lconst 1, 1) := by decide +kernel
theorem dX2_arrive_144 : decode cX2_arrive 144 = .ok (.aload_n 0, 1) := by decide +kernel
theorem dX2_arrive_145 : decode cX2_arrive 145 = .ok (.getfield 104, 3) := by decide +kernel
theorem dX2_arrive_148 : decode cX2_arrive 148 = .ok (.iconst 3, 1) := by decide +kernel
theorem dX2_arrive_149 : decode cX2_arrive 149 = .ok (.iload 8, 2) := by decide +kernel
theorem dX2_arrive_151 : decode cX2_arrive 151 = .ok (.imul, 1) := by decide +kernel
theorem dX2_arrive_152 : decode cX2_arrive 152 = .ok (.lshr, 1) := by decide +kernel
theorem dX2_arrive_153 : decode cX2_arrive 153 = .ok (.ldc2_w 107, 3) := by decide +kernel
theorem dX2_arrive_156 : decode cX2_arrive 156 = .ok (.land, 1) := by decide +kernel
theorem dX2_arrive_157 : decode cX2_arrive 157 = .ok (.l2i, 1) := by decide +kernel
theorem dX2_arrive_158 : decode cX2_arrive 158 = .ok (.lshl, 1) := by decide +kernel
theorem dX2_arrive_159 : decode cX2_arrive 159 = .ok (.lor, 1) := by decide +kernel
theorem dX2_arrive_160 : decode cX2_arrive 160 = .ok (.lstore 9, 2) := by decide +kernel
theorem dX2_arrive_162 : decode cX2_arrive 162 = .ok (.lconst 1, 1) := by decide +kernel
theorem dX2_arrive_163 : decode cX2_arrive 163 = .ok (.lload 6, 2) := by decide +kernel
theorem dX2_arrive_165 : decode cX2_arrive 165 = .ok (.l2i, 1) := by decide +kernel
theorem dX2_arrive_166 : decode cX2_arrive 166 = .ok (.lshl, 1) := by decide +kernel
theorem dX2_arrive_167 : decode cX2_arrive 167 = .ok (.lconst 1, 1) := by decide +kernel
theorem dX2_arrive_168 : decode cX2_arrive 168 = .ok (.aload_n 0, 1) := by decide +kernel
theorem dX2_arrive_169 : decode cX2_arrive 169 = .ok (.getfield 115, 3) := by decide +kernel
theorem dX2_arrive_172 : decode cX2_arrive 172 = .ok (.iconst 3, 1) := by decide +kernel
theorem dX2_arrive_173 : decode cX2_arrive 173 = .ok (.iload 8, 2) := by decide +kernel
theorem dX2_arrive_175 : decode cX2_arrive 175 = .ok (.imul, 1) := by decide +kernel
theorem dX2_arrive_176 : decode cX2_arrive 176 = .ok (.lshr, 1) := by decide +kernel
theorem dX2_arrive_177 : decode cX2_arrive 177 = .ok (.ldc2_w 107, 3) := by decide +kernel
theorem dX2_arrive_180 : decode cX2_arrive 180 = .ok (.land, 1) := by decide +kernel
theorem dX2_arrive_181 : decode cX2_arrive 181 = .ok (.l2i, 1) := by decide +kernel
theorem dX2_arrive_182 : decode cX2_arrive 182 = .ok (.lshl, 1) := by decide +kernel
theorem dX2_arrive_183 : decode cX2_arrive 183 = .ok (.lor, 1) := by decide +kernel
theorem dX2_arrive_184 : decode cX2_arrive 184 = .ok (.lstore 11, 2) := by decide +kernel
theorem dX2_arrive_186 : decode cX2_arrive 186 = .ok (.iload_n 1, 1) := by decide +kernel
theorem dX2_arrive_187 : decode cX2_arrive 187 = .ok (.iload_n 2, 1) := by decide +kernel
theorem dX2_arrive_188 : decode cX2_arrive 188 = .ok (.ishr, 1) := by decide +kernel
theorem dX2_arrive_189 : decode cX2_arrive 189 = .ok (.iconst 1, 1) := by decide +kernel
theorem dX2_arrive_190 : decode cX2_arrive 190 = .ok (.iand, 1) := by decide +kernel
theorem dX2_arrive_191 : decode cX2_arrive 191 = .ok (.iconst 1, 1) := by decide +kernel
theorem dX2_arrive_192 : decode cX2_arrive 192 = .ok (.if_icmp .ne 21, 3) := by decide +kernel
theorem dX2_arrive_195 : decode cX2_arrive 195 = .ok (.lload 9, 2) := by decide +kernel
theorem dX2_arrive_197 : decode cX2_arrive 197 = .ok (.lload 11, 2) := by decide +kernel
theorem dX2_arrive_199 : decode cX2_arrive 199 = .ok (.lcmp, 1) := by decide +kernel
theorem dX2_arrive_200 : decode cX2_arrive 200 = .ok (.ifCond .ne 13, 3) := by decide +kernel
theorem dX2_arrive_203 : decode cX2_arrive 203 = .ok (.aload_n 0, 1) := by decide +kernel
theorem dX2_arrive_204 : decode cX2_arrive 204 = .ok (.dup, 1) := by decide +kernel
theorem dX2_arrive_205 : decode cX2_arrive 205 = .ok (.getfield 70, 3) := by decide +kernel
theorem dX2_arrive_208 : decode cX2_arrive 208 = .ok (.iconst 1, 1) := by decide +kernel
theorem dX2_arrive_209 : decode cX2_arrive 209 = .ok (.iadd, 1) := by decide +kernel
theorem dX2_arrive_210 : decode cX2_arrive 210 = .ok (.putfield 70, 3) := by decide +kernel
theorem dX2_arrive_213 : decode cX2_arrive 213 = .ok (.iinc 8 1, 3) := by decide +kernel
theorem dX2_arrive_216 : decode cX2_arrive 216 = .ok (.goto (-87), 3) := by decide +kernel
theorem dX2_arrive_219 : decode cX2_arrive 219 = .ok (.iinc 3 1, 3) := by decide +kernel
theorem dX2_arrive_222 : decode cX2_arrive 222 = .ok (.goto (-162), 3) := by decide +kernel
theorem dX2_arrive_225 : decode cX2_arrive 225 = .ok (.return_, 1) := by decide +kernel
set_option maxHeartbeats 4000000 in
set_option maxRecDepth 100000 in
theorem c_X2_arrive (l : Launch) (D : eD) (T : Nat → ClassId) (h_t h_t_sketch : Nat) (t_allBits : Int32) (t_firstOrder : Int64) (t_isBeaten : Int32) (t_isStudy : Int32) (t_isTest : Int32) (t_least : Int32) (t_nodes : Int32) (t_order : Int64) (t_seen : Int64) (t_stillEdges : Int32) (t_symmetries : Int32) (p1 : Int32) (post : Int64 → Int32 → Int64 → Int32 → Int32 → Prop) (h : F_X2_arrive t_allBits t_isStudy t_nodes t_order t_firstOrder t_least t_seen t_stillEdges t_symmetries p1 post) : cV l D T yX2_arrive cX2_arrive 13 none 0 0 0 0 [.ref h_t, .int p1] [(h_t, .inr (1, [.ref h_t_sketch, .int t_nodes, .int t_allBits, .int t_isTest, .int t_isBeaten, .int t_isStudy, .long t_order, .int t_least, .int t_symmetries, .long t_firstOrder, .long t_seen, .int t_stillEdges]))] (fun w1 => ∃ (t_firstOrder1 : Int64) (t_least1 : Int32) (t_seen1 : Int64) (t_stillEdges1 : Int32) (t_symmetries1 : Int32), w1 = [(h_t, .inr (1, [.ref h_t_sketch, .int t_nodes, .int t_allBits, .int t_isTest, .int t_isBeaten, .int t_isStudy, .long t_order, .int t_least1, .int t_symmetries1, .long t_firstOrder1, .long t_seen1, .int t_stillEdges1]))] ∧ post t_firstOrder1 t_least1 t_seen1 t_stillEdges1 t_symmetries1) := by
  refine xV_of (by decide +kernel) (Nat.le_of_ble_eq_true rfl) rfl ?_
  intro G X hret
  change G 0 0 0 [(0, .ref h_t), (1, .int p1)] [] [(h_t, .inr (1, [.ref h_t_sketch, .int t_nodes, .int t_allBits, .int t_isTest, .int t_isBeaten, .int t_isStudy, .long t_order, .int t_least, .int t_symmetries, .long t_firstOrder, .long t_seen, .int t_stillEdges]))]
  unfold F_X2_arrive at h
  have k43 : ∀ (x1 : Int32) (t_firstOrder : Int64) (t_least : Int32) (t_seen : Int64) (t_stillEdges : Int32) (t_symmetries : Int32), F_X2_arrive_43 t_allBits t_isStudy t_nodes t_order post x1 t_firstOrder t_least t_seen t_stillEdges t_symmetries → G 0 0 43 [(0, .ref h_t), (1, .int x1)] [] [(h_t, .inr (1, [.ref h_t_sketch, .int t_nodes, .int t_allBits, .int t_isTest, .int t_isBeaten, .int t_isStudy, .long t_order, .int t_least, .int t_symmetries, .long t_firstOrder, .long t_seen, .int t_stillEdges]))] := by
    intro x1 t_firstOrder t_least t_seen t_stillEdges t_symmetries h
    unfold F_X2_arrive_43 at h
    have k60 : ∀ (n60 : Nat) (x1 : Int32) (x2 : Int32) (x3 : Int32) (t_firstOrder : Int64) (t_least : Int32) (t_seen : Int64) (t_stillEdges : Int32) (t_symmetries : Int32), F_X2_arrive_60 t_allBits t_isStudy t_nodes t_order post n60 x1 x2 x3 t_firstOrder t_least t_seen t_stillEdges t_symmetries → G 0 0 60 [(0, .ref h_t), (1, .int x1), (2, .int x2), (3, .int x3)] [] [(h_t, .inr (1, [.ref h_t_sketch, .int t_nodes, .int t_allBits, .int t_isTest, .int t_isBeaten, .int t_isStudy, .long t_order, .int t_least, .int t_symmetries, .long t_firstOrder, .long t_seen, .int t_stillEdges]))] := by
      intro n60
      induction n60 with
      | zero => intro x1 x2 x3 t_firstOrder t_least t_seen t_stillEdges t_symmetries h; exact h.elim
      | succ n60 ih60 =>
        intro x1 x2 x3 t_firstOrder t_least t_seen t_stillEdges t_symmetries h
        rw [F_X2_arrive_60] at h
        have k129 : ∀ (n129 : Nat) (x1 : Int32) (x2 : Int32) (x3 : Int32) (x4 : Int64) (x6 : Int64) (x8 : Int32) (t_firstOrder : Int64) (t_least : Int32) (t_seen : Int64) (t_stillEdges : Int32) (t_symmetries : Int32), F_X2_arrive_129 t_allBits t_isStudy t_nodes t_order post (F_X2_arrive_60 t_allBits t_isStudy t_nodes t_order post n60) n129 x1 x2 x3 x4 x6 x8 t_firstOrder t_least t_seen t_stillEdges t_symmetries → G 0 0 129 [(0, .ref h_t), (1, .int x1), (2, .int x2), (3, .int x3), (4, .long x4), (6, .long x6), (8, .int x8)] [] [(h_t, .inr (1, [.ref h_t_sketch, .int t_nodes, .int t_allBits, .int t_isTest, .int t_isBeaten, .int t_isStudy, .long t_order, .int t_least, .int t_symmetries, .long t_firstOrder, .long t_seen, .int t_stillEdges]))] := by
          intro n129
          induction n129 with
          | zero => intro x1 x2 x3 x4 x6 x8 t_firstOrder t_least t_seen t_stillEdges t_symmetries h; exact h.elim
          | succ n129 ih129 =>
            intro x1 x2 x3 x4 x6 x8 t_firstOrder t_least t_seen t_stillEdges t_symmetries h
            rw [F_X2_arrive_129] at h
            have k213 : ∀ (x1 : Int32) (x2 : Int32) (x3 : Int32) (x4 : Int64) (x6 : Int64) (x8 : Int32) (t_firstOrder : Int64) (t_least : Int32) (t_seen : Int64) (t_stillEdges : Int32) (t_symmetries : Int32), F_X2_arrive_213 t_allBits t_isStudy t_nodes t_order post (F_X2_arrive_129 t_allBits t_isStudy t_nodes t_order post (F_X2_arrive_60 t_allBits t_isStudy t_nodes t_order post n60) n129) x1 x2 x3 x4 x6 x8 t_firstOrder t_least t_seen t_stillEdges t_symmetries → G 0 0 213 [(0, .ref h_t), (1, .int x1), (2, .int x2), (3, .int x3), (4, .long x4), (6, .long x6), (8, .int x8)] [] [(h_t, .inr (1, [.ref h_t_sketch, .int t_nodes, .int t_allBits, .int t_isTest, .int t_isBeaten, .int t_isStudy, .long t_order, .int t_least, .int t_symmetries, .long t_firstOrder, .long t_seen, .int t_stillEdges]))] := by
              intro x1 x2 x3 x4 x6 x8 t_firstOrder t_least t_seen t_stillEdges t_symmetries h
              unfold F_X2_arrive_213 at h
              refine x_iinc (v := (x8 + 1)) (lv' := [(8, .int (x8 + 1)), (0, .ref h_t), (1, .int x1), (2, .int x2), (3, .int x3), (4, .long x4), (6, .long x6)]) X dX2_arrive_213 6 rfl rfl (by decide) rfl ?_
              refine x_goto (tgt := 129) X dX2_arrive_216 (by decide) ?_
              exact x_sub X [1, 2, 3, 4, 5, 6, 0] rfl (ih129 x1 x2 x3 x4 x6 (x8 + 1) t_firstOrder t_least t_seen t_stillEdges t_symmetries h)
            refine x_iload X dX2_arrive_129 6 rfl ?_
            refine x_iload_n X dX2_arrive_131 3 rfl ?_
            refine x_icmp_ge (tgt := 219) X dX2_arrive_132 (by decide) (fun hc => ?_) (fun hc => ?_)
            · have h := h.1 hc
              refine x_iinc (v := (x3 + 1)) (lv' := [(3, .int (x3 + 1)), (0, .ref h_t), (1, .int x1), (2, .int x2), (4, .long x4), (6, .long x6), (8, .int x8)]) X dX2_arrive_219 3 rfl rfl (by decide) rfl ?_
              refine x_goto (tgt := 60) X dX2_arrive_222 (by decide) ?_
              exact x_sub X [1, 2, 3, 0] rfl (ih60 x1 x2 (x3 + 1) t_firstOrder t_least t_seen t_stillEdges t_symmetries h)
            · have h := h.2 hc
              refine x_iinc (v := (x2 + (-1))) (lv' := [(2, .int (x2 + (-1))), (0, .ref h_t), (1, .int x1), (3, .int x3), (4, .long x4), (6, .long x6), (8, .int x8)]) X dX2_arrive_135 2 rfl rfl (by decide) rfl ?_
              refine x_lconst (v := 1) X dX2_arrive_138 (by decide) ?_
              refine x_lload X dX2_arrive_139 4 rfl ?_
              refine x_l2i X dX2_arrive_141 ?_
              refine x_lshl X dX2_arrive_142 ?_
              refine x_lconst (v := 1) X dX2_arrive_143 (by decide) ?_
              refine x_aload_n X dX2_arrive_144 1 rfl ?_
              refine x_get X inGX2 6 (by decide) rfl tw_240 dX2_arrive_145 rfl 0 rfl rfl ?_
              refine x_iconst (v := 3) X dX2_arrive_148 (by decide) ?_
              refine x_iload X dX2_arrive_149 6 rfl ?_
              refine x_imul X dX2_arrive_151 ?_
              refine x_lshr X dX2_arrive_152 ?_
              refine x_ldc2 (v := 7) X tw_371 dX2_arrive_153 ?_
              refine x_land X dX2_arrive_156 ?_
              refine x_l2i X dX2_arrive_157 ?_
              refine x_lshl X dX2_arrive_158 ?_
              refine x_lor X dX2_arrive_159 ?_
              refine x_topl X (fun x9_160 e_x9_160 => ?_)
              have h := h x9_160 e_x9_160
              refine x_lstore (lv' := [(9, .long x9_160), (2, .int (x2 + (-1))), (0, .ref h_t), (1, .int x1), (3, .int x3), (4, .long x4), (6, .long x6), (8, .int x8)]) X dX2_arrive_160 (by decide) rfl ?_
              refine x_lconst (v := 1) X dX2_arrive_162 (by decide) ?_
              refine x_lload X dX2_arrive_163 6 rfl ?_
              refine x_l2i X dX2_arrive_165 ?_
              refine x_lshl X dX2_arrive_166 ?_
              refine x_lconst (v := 1) X dX2_arrive_167 (by decide) ?_
              refine x_aload_n X dX2_arrive_168 2 rfl ?_
              refine x_get X inGX2 9 (by decide) rfl tw_245 dX2_arrive_169 rfl 0 rfl rfl ?_
              refine x_iconst (v := 3) X dX2_arrive_172 (by decide) ?_
              refine x_iload X dX2_arrive_173 7 rfl ?_
              refine x_imul X dX2_arrive_175 ?_
              refine x_lshr X dX2_arrive_176 ?_
              refine x_ldc2 (v := 7) X tw_371 dX2_arrive_177 ?_
              refine x_land X dX2_arrive_180 ?_
              refine x_l2i X dX2_arrive_181 ?_
              refine x_lshl X dX2_arrive_182 ?_
              refine x_lor X dX2_arrive_183 ?_
              refine x_topl X (fun x11_184 e_x11_184 => ?_)
              have h := h x11_184 e_x11_184
              refine x_lstore (lv' := [(11, .long x11_184), (9, .long x9_160), (2, .int (x2 + (-1))), (0, .ref h_t), (1, .int x1), (3, .int x3), (4, .long x4), (6, .long x6), (8, .int x8)]) X dX2_arrive_184 (by decide) rfl ?_
              refine x_iload_n X dX2_arrive_186 4 rfl ?_
              refine x_iload_n X dX2_arrive_187 2 rfl ?_
              refine x_ishr X dX2_arrive_188 ?_
              refine x_iconst (v := 1) X dX2_arrive_189 (by decide) ?_
              refine x_iand X dX2_arrive_190 ?_
              refine x_iconst (v := 1) X dX2_arrive_191 (by decide) ?_
              refine x_icmp_ne (tgt := 213) X dX2_arrive_192 (by decide) (fun hc => ?_) (fun hc => ?_)
              · have h := h.1 hc
                exact x_sub X [3, 4, 2, 5, 6, 7, 8] rfl (k213 x1 (x2 + (-1)) x3 x4 x6 x8 t_firstOrder t_least t_seen t_stillEdges t_symmetries h)
              · have h := h.2 hc
                refine x_lload X dX2_arrive_195 1 rfl ?_
                refine x_lload X dX2_arrive_197 0 rfl ?_
                refine x_lcmp X dX2_arrive_199 ?_
                refine x_if_ne (tgt := 213) X dX2_arrive_200 (by decide) (fun hc => ?_) (fun hc => ?_)
                · have h := h.1 hc
                  exact x_sub X [3, 4, 2, 5, 6, 7, 8] rfl (k213 x1 (x2 + (-1)) x3 x4 x6 x8 t_firstOrder t_least t_seen t_stillEdges t_symmetries h)
                · have h := h.2 hc
                  refine x_aload_n X dX2_arrive_203 3 rfl ?_
                  refine x_dup X dX2_arrive_204 rfl ?_
                  refine x_get X inGX2 11 (by decide) rfl tw_248 dX2_arrive_205 rfl 0 rfl rfl ?_
                  refine x_iconst (v := 1) X dX2_arrive_208 (by decide) ?_
                  refine x_iadd X dX2_arrive_209 ?_
                  refine x_put (ws' := [(h_t, .inr (1, [.ref h_t_sketch, .int t_nodes, .int t_allBits, .int t_isTest, .int t_isBeaten, .int t_isStudy, .long t_order, .int t_least, .int t_symmetries, .long t_firstOrder, .long t_seen, .int (t_stillEdges + (1 : Int32))]))]) X inGX2 tyX2_ok nmX2 11 (by decide) rfl tw_248 dX2_arrive_210 rfl rfl 0 rfl rfl rfl (Nat.le_of_ble_eq_true rfl) rfl ?_
                  exact x_sub X [3, 4, 2, 5, 6, 7, 8] rfl (k213 x1 (x2 + (-1)) x3 x4 x6 x8 t_firstOrder t_least t_seen (t_stillEdges + (1 : Int32)) t_symmetries h)
        have k225 : ∀ (t_firstOrder : Int64) (t_least : Int32) (t_seen : Int64) (t_stillEdges : Int32) (t_symmetries : Int32), F_X2_arrive_225 t_allBits t_isStudy t_nodes t_order post t_firstOrder t_least t_seen t_stillEdges t_symmetries → G 0 0 225 [] [] [(h_t, .inr (1, [.ref h_t_sketch, .int t_nodes, .int t_allBits, .int t_isTest, .int t_isBeaten, .int t_isStudy, .long t_order, .int t_least, .int t_symmetries, .long t_firstOrder, .long t_seen, .int t_stillEdges]))] := by
          intro t_firstOrder t_least t_seen t_stillEdges t_symmetries h
          unfold F_X2_arrive_225 at h
          exact hret _ _ _ dX2_arrive_225 ⟨t_firstOrder, t_least, t_seen, t_stillEdges, t_symmetries, rfl, h⟩
        refine x_iload_n X dX2_arrive_60 3 rfl ?_
        refine x_aload_n X dX2_arrive_61 0 rfl ?_
        refine x_get X inGX2 1 (by decide) rfl tw_234 dX2_arrive_62 rfl 0 rfl rfl ?_
        refine x_icmp_ge (tgt := 225) X dX2_arrive_65 (by decide) (fun hc => ?_) (fun hc => ?_)
        · have h := h.1 hc
          exact x_sub X [] rfl (k225 t_firstOrder t_least t_seen t_stillEdges t_symmetries h)
        · have h := h.2 hc
          refine x_aload_n X dX2_arrive_68 0 rfl ?_
          refine x_get X inGX2 5 (by decide) rfl tw_239 dX2_arrive_69 rfl 0 rfl rfl ?_
          refine x_if_eq (tgt := 225) X dX2_arrive_72 (by decide) (fun hc => ?_) (fun hc => ?_)
          · have h := h.1 hc
            exact x_sub X [] rfl (k225 t_firstOrder t_least t_seen t_stillEdges t_symmetries h)
          · have h := h.2 hc
            refine x_aload_n X dX2_arrive_75 0 rfl ?_
            refine x_get X inGX2 6 (by decide) rfl tw_240 dX2_arrive_76 rfl 0 rfl rfl ?_
            refine x_iconst (v := 3) X dX2_arrive_79 (by decide) ?_
            refine x_iload_n X dX2_arrive_80 3 rfl ?_
            refine x_imul X dX2_arrive_81 ?_
            refine x_lshr X dX2_arrive_82 ?_
            refine x_ldc2 (v := 7) X tw_371 dX2_arrive_83 ?_
            refine x_land X dX2_arrive_86 ?_
            refine x_lstore (lv' := [(4, .long ((t_order >>> (((3 : Int32) * x3).toInt64 &&& 63)) &&& (7 : Int64))), (0, .ref h_t), (1, .int x1), (2, .int x2), (3, .int x3)]) X dX2_arrive_87 (by decide) rfl ?_
            refine x_aload_n X dX2_arrive_89 1 rfl ?_
            refine x_get X inGX2 9 (by decide) rfl tw_245 dX2_arrive_90 rfl 0 rfl rfl ?_
            refine x_iconst (v := 3) X dX2_arrive_93 (by decide) ?_
            refine x_iload_n X dX2_arrive_94 4 rfl ?_
            refine x_imul X dX2_arrive_95 ?_
            refine x_lshr X dX2_arrive_96 ?_
            refine x_ldc2 (v := 7) X tw_371 dX2_arrive_97 ?_
            refine x_land X dX2_arrive_100 ?_
            refine x_topl X (fun x6_101 e_x6_101 => ?_)
            have h := h x6_101 e_x6_101
            refine x_lstore (lv' := [(6, .long x6_101), (4, .long ((t_order >>> (((3 : Int32) * x3).toInt64 &&& 63)) &&& (7 : Int64))), (0, .ref h_t), (1, .int x1), (2, .int x2), (3, .int x3)]) X dX2_arrive_101 (by decide) rfl ?_
            refine x_aload_n X dX2_arrive_103 2 rfl ?_
            refine x_dup X dX2_arrive_104 rfl ?_
            refine x_get X inGX2 10 (by decide) rfl tw_247 dX2_arrive_105 rfl 0 rfl rfl ?_
            refine x_lconst (v := 1) X dX2_arrive_108 (by decide) ?_
            refine x_bipush (v := 6) X dX2_arrive_109 (by decide) ?_
            refine x_iload_n X dX2_arrive_111 5 rfl ?_
            refine x_imul X dX2_arrive_112 ?_
            refine x_i2l X dX2_arrive_113 ?_
            refine x_lload X dX2_arrive_114 1 rfl ?_
            refine x_ladd X dX2_arrive_116 ?_
            refine x_l2i X dX2_arrive_117 ?_
            refine x_lshl X dX2_arrive_118 ?_
            refine x_lor X dX2_arrive_119 ?_
            refine x_put (ws' := [(h_t, .inr (1, [.ref h_t_sketch, .int t_nodes, .int t_allBits, .int t_isTest, .int t_isBeaten, .int t_isStudy, .long t_order, .int t_least, .int t_symmetries, .long t_firstOrder, .long (t_seen ||| ((1 : Int64) <<< ((((((6 : Int32) * x3).toInt64) + ((t_order >>> (((3 : Int32) * x3).toInt64 &&& 63)) &&& (7 : Int64))).toInt32).toInt64 &&& 63))), .int t_stillEdges]))]) X inGX2 tyX2_ok nmX2 10 (by decide) rfl tw_247 dX2_arrive_120 rfl rfl 0 rfl rfl rfl (Nat.le_of_ble_eq_true rfl) rfl ?_
            refine x_iinc (v := (x2 + (-1))) (lv' := [(2, .int (x2 + (-1))), (6, .long x6_101), (4, .long ((t_order >>> (((3 : Int32) * x3).toInt64 &&& 63)) &&& (7 : Int64))), (0, .ref h_t), (1, .int x1), (3, .int x3)]) X dX2_arrive_123 4 rfl rfl (by decide) rfl ?_
            refine x_iconst (v := 0) X dX2_arrive_126 (by decide) ?_
            refine x_istore (lv' := [(8, .int (0 : Int32)), (2, .int (x2 + (-1))), (6, .long x6_101), (4, .long ((t_order >>> (((3 : Int32) * x3).toInt64 &&& 63)) &&& (7 : Int64))), (0, .ref h_t), (1, .int x1), (3, .int x3)]) X dX2_arrive_127 (by decide) rfl ?_
            obtain ⟨n129, h⟩ := h
            exact x_sub X [4, 5, 1, 6, 3, 2, 0] rfl (k129 n129 x1 (x2 + (-1)) x3 ((t_order >>> (((3 : Int32) * x3).toInt64 &&& 63)) &&& (7 : Int64)) x6_101 (0 : Int32) t_firstOrder t_least (t_seen ||| ((1 : Int64) <<< ((((((6 : Int32) * x3).toInt64) + ((t_order >>> (((3 : Int32) * x3).toInt64 &&& 63)) &&& (7 : Int64))).toInt32).toInt64 &&& 63))) t_stillEdges t_symmetries h)
    refine x_aload_n X dX2_arrive_43 0 rfl ?_
    refine x_dup X dX2_arrive_44 rfl ?_
    refine x_get X inGX2 8 (by decide) rfl tw_243 dX2_arrive_45 rfl 0 rfl rfl ?_
    refine x_iconst (v := 1) X dX2_arrive_48 (by decide) ?_
    refine x_iadd X dX2_arrive_49 ?_
    refine x_put (ws' := [(h_t, .inr (1, [.ref h_t_sketch, .int t_nodes, .int t_allBits, .int t_isTest, .int t_isBeaten, .int t_isStudy, .long t_order, .int t_least, .int (t_symmetries + (1 : Int32)), .long t_firstOrder, .long t_seen, .int t_stillEdges]))]) X inGX2 tyX2_ok nmX2 8 (by decide) rfl tw_243 dX2_arrive_50 rfl rfl 0 rfl rfl rfl (Nat.le_of_ble_eq_true rfl) rfl ?_
    refine x_aload_n X dX2_arrive_53 0 rfl ?_
    refine x_get X inGX2 2 (by decide) rfl tw_236 dX2_arrive_54 rfl 0 rfl rfl ?_
    refine x_istore_n (lv' := [(2, .int t_allBits), (0, .ref h_t), (1, .int x1)]) X dX2_arrive_57 (by decide) rfl ?_
    refine x_iconst (v := 0) X dX2_arrive_58 (by decide) ?_
    refine x_istore_n (lv' := [(3, .int (0 : Int32)), (2, .int t_allBits), (0, .ref h_t), (1, .int x1)]) X dX2_arrive_59 (by decide) rfl ?_
    obtain ⟨n60, h⟩ := h
    exact x_sub X [2, 3, 1, 0] rfl (k60 n60 x1 t_allBits (0 : Int32) t_firstOrder t_least t_seen t_stillEdges (t_symmetries + (1 : Int32)) h)
  have k15 : ∀ (x1 : Int32) (t_firstOrder : Int64) (t_least : Int32) (t_seen : Int64) (t_stillEdges : Int32) (t_symmetries : Int32), F_X2_arrive_15 t_allBits t_isStudy t_nodes t_order post (fun x1 t_firstOrder t_least t_seen t_stillEdges t_symmetries => F_X2_arrive_43 t_allBits t_isStudy t_nodes t_order post x1 t_firstOrder t_least t_seen t_stillEdges t_symmetries) x1 t_firstOrder t_least t_seen t_stillEdges t_symmetries → G 0 0 15 [(0, .ref h_t), (1, .int x1)] [] [(h_t, .inr (1, [.ref h_t_sketch, .int t_nodes, .int t_allBits, .int t_isTest, .int t_isBeaten, .int t_isStudy, .long t_order, .int t_least, .int t_symmetries, .long t_firstOrder, .long t_seen, .int t_stillEdges]))] := by
    intro x1 t_firstOrder t_least t_seen t_stillEdges t_symmetries h
    unfold F_X2_arrive_15 at h
    refine x_aload_n X dX2_arrive_15 0 rfl ?_
    refine x_iload_n X dX2_arrive_16 1 rfl ?_
    refine x_put (ws' := [(h_t, .inr (1, [.ref h_t_sketch, .int t_nodes, .int t_allBits, .int t_isTest, .int t_isBeaten, .int t_isStudy, .long t_order, .int x1, .int t_symmetries, .long t_firstOrder, .long t_seen, .int t_stillEdges]))]) X inGX2 tyX2_ok nmX2 7 (by decide) rfl tw_241 dX2_arrive_17 rfl rfl 0 rfl rfl rfl (Nat.le_of_ble_eq_true rfl) rfl ?_
    refine x_aload_n X dX2_arrive_20 0 rfl ?_
    refine x_iconst (v := 0) X dX2_arrive_21 (by decide) ?_
    refine x_put (ws' := [(h_t, .inr (1, [.ref h_t_sketch, .int t_nodes, .int t_allBits, .int t_isTest, .int t_isBeaten, .int t_isStudy, .long t_order, .int x1, .int (0 : Int32), .long t_firstOrder, .long t_seen, .int t_stillEdges]))]) X inGX2 tyX2_ok nmX2 8 (by decide) rfl tw_243 dX2_arrive_22 rfl rfl 0 rfl rfl rfl (Nat.le_of_ble_eq_true rfl) rfl ?_
    refine x_aload_n X dX2_arrive_25 0 rfl ?_
    refine x_aload_n X dX2_arrive_26 0 rfl ?_
    refine x_get X inGX2 6 (by decide) rfl tw_240 dX2_arrive_27 rfl 0 rfl rfl ?_
    refine x_put (ws' := [(h_t, .inr (1, [.ref h_t_sketch, .int t_nodes, .int t_allBits, .int t_isTest, .int t_isBeaten, .int t_isStudy, .long t_order, .int x1, .int (0 : Int32), .long t_order, .long t_seen, .int t_stillEdges]))]) X inGX2 tyX2_ok nmX2 9 (by decide) rfl tw_245 dX2_arrive_30 rfl rfl 0 rfl rfl rfl (Nat.le_of_ble_eq_true rfl) rfl ?_
    refine x_aload_n X dX2_arrive_33 0 rfl ?_
    refine x_lconst (v := 0) X dX2_arrive_34 (by decide) ?_
    refine x_put (ws' := [(h_t, .inr (1, [.ref h_t_sketch, .int t_nodes, .int t_allBits, .int t_isTest, .int t_isBeaten, .int t_isStudy, .long t_order, .int x1, .int (0 : Int32), .long t_order, .long (0 : Int64), .int t_stillEdges]))]) X inGX2 tyX2_ok nmX2 10 (by decide) rfl tw_247 dX2_arrive_35 rfl rfl 0 rfl rfl rfl (Nat.le_of_ble_eq_true rfl) rfl ?_
    refine x_aload_n X dX2_arrive_38 0 rfl ?_
    refine x_iconst (v := 0) X dX2_arrive_39 (by decide) ?_
    refine x_put (ws' := [(h_t, .inr (1, [.ref h_t_sketch, .int t_nodes, .int t_allBits, .int t_isTest, .int t_isBeaten, .int t_isStudy, .long t_order, .int x1, .int (0 : Int32), .long t_order, .long (0 : Int64), .int (0 : Int32)]))]) X inGX2 tyX2_ok nmX2 11 (by decide) rfl tw_248 dX2_arrive_40 rfl rfl 0 rfl rfl rfl (Nat.le_of_ble_eq_true rfl) rfl ?_
    exact x_sub X [0, 1] rfl (k43 x1 t_order x1 (0 : Int64) (0 : Int32) (0 : Int32) h)
  refine x_iload_n X dX2_arrive_0 1 rfl ?_
  refine x_aload_n X dX2_arrive_1 0 rfl ?_
  refine x_get X inGX2 7 (by decide) rfl tw_241 dX2_arrive_2 rfl 0 rfl rfl ?_
  refine x_icmp_lt (tgt := 15) X dX2_arrive_5 (by decide) (fun hc => ?_) (fun hc => ?_)
  · have h := h.1 hc
    exact x_sub X [0, 1] rfl (k15 p1 t_firstOrder t_least t_seen t_stillEdges t_symmetries h)
  · have h := h.2 hc
    refine x_aload_n X dX2_arrive_8 0 rfl ?_
    refine x_get X inGX2 8 (by decide) rfl tw_243 dX2_arrive_9 rfl 0 rfl rfl ?_
    refine x_if_ne (tgt := 43) X dX2_arrive_12 (by decide) (fun hc => ?_) (fun hc => ?_)
    · have h := h.1 hc
      exact x_sub X [0, 1] rfl (k43 p1 t_firstOrder t_least t_seen t_stillEdges t_symmetries h)
    · have h := h.2 hc
      exact x_sub X [0, 1] rfl (k15 p1 t_firstOrder t_least t_seen t_stillEdges t_symmetries h)
theorem dX2_place_0 : decode cX2_place 0 = .ok (.aload_n 0, 1) := by decide +kernel
theorem dX2_place_1 : decode cX2_place 1 = .ok (.aload_n 0, 1) := by decide +kernel
theorem dX2_place_2 : decode cX2_place 2 = .ok (.getfield 104, 3) := by decide +kernel
theorem dX2_place_5 : decode cX2_place 5 = .ok (.ldc2_w 107, 3) := by decide +kernel
theorem dX2_place_8 : decode cX2_place 8 = .ok (.iconst 3, 1) := by decide +kernel
theorem dX2_place_9 : decode cX2_place 9 = .ok (.iload_n 2, 1) := by decide +kernel
theorem dX2_place_10 : decode cX2_place 10 = .ok (.imul, 1) := by decide +kernel
theorem dX2_place_11 : decode cX2_place 11 = .ok (.lshl, 1) := by decide +kernel
theorem dX2_place_12 : decode cX2_place 12 = .ok (.ldc2_w 109, 3) := by decide +kernel
theorem dX2_place_15 : decode cX2_place 15 = .ok (.lxor, 1) := by decide +kernel
theorem dX2_place_16 : decode cX2_place 16 = .ok (.land, 1) := by decide +kernel
theorem dX2_place_17 : decode cX2_place 17 = .ok (.iload_n 1, 1) := by decide +kernel
theorem dX2_place_18 : decode cX2_place 18 = .ok (.i2l, 1) := by decide +kernel
theorem dX2_place_19 : decode cX2_place 19 = .ok (.iconst 3, 1) := by decide +kernel
theorem dX2_place_20 : decode cX2_place 20 = .ok (.iload_n 2, 1) := by decide +kernel
theorem dX2_place_21 : decode cX2_place 21 = .ok (.imul, 1) := by decide +kernel
theorem dX2_place_22 : decode cX2_place 22 = .ok (.lshl, 1) := by decide +kernel
theorem dX2_place_23 : decode cX2_place 23 = .ok (.lor, 1) := by decide +kernel
theorem dX2_place_24 : decode cX2_place 24 = .ok (.putfield 104, 3) := by decide +kernel
theorem dX2_place_27 : decode cX2_place 27 = .ok (.aload_n 0, 1) := by decide +kernel
theorem dX2_place_28 : decode cX2_place 28 = .ok (.iload_n 2, 1) := by decide +kernel
theorem dX2_place_29 : decode cX2_place 29 = .ok (.iconst 1, 1) := by decide +kernel
theorem dX2_place_30 : decode cX2_place 30 = .ok (.iadd, 1) := by decide +kernel
theorem dX2_place_31 : decode cX2_place 31 = .ok (.iload_n 3, 1) := by decide +kernel
theorem dX2_place_32 : decode cX2_place 32 = .ok (.iconst 1, 1) := by decide +kernel
theorem dX2_place_33 : decode cX2_place 33 = .ok (.iload_n 1, 1) := by decide +kernel
theorem dX2_place_34 : decode cX2_place 34 = .ok (.ishl, 1) := by decide +kernel
theorem dX2_place_35 : decode cX2_place 35 = .ok (.ior, 1) := by decide +kernel
theorem dX2_place_36 : decode cX2_place 36 = .ok (.iload 4, 2) := by decide +kernel
theorem dX2_place_38 : decode cX2_place 38 = .ok (.lload 5, 2) := by decide +kernel
theorem dX2_place_40 : decode cX2_place 40 = .ok (.iconst 1, 1) := by decide +kernel
theorem dX2_place_41 : decode cX2_place 41 = .ok (.lshl, 1) := by decide +kernel
theorem dX2_place_42 : decode cX2_place 42 = .ok (.aload_n 0, 1) := by decide +kernel
theorem dX2_place_43 : decode cX2_place 43 = .ok (.getfield 10, 3) := by decide +kernel
theorem dX2_place_46 : decode cX2_place 46 = .ok (.iload_n 1, 1) := by decide +kernel
theorem dX2_place_47 : decode cX2_place 47 = .ok (.invokevirtual 111, 3) := by decide +kernel
theorem dX2_place_50 : decode cX2_place 50 = .ok (.lor, 1) := by decide +kernel
theorem dX2_place_51 : decode cX2_place 51 = .ok (.invokevirtual 32, 3) := by decide +kernel
theorem dX2_place_54 : decode cX2_place 54 = .ok (.return_, 1) := by decide +kernel
set_option maxHeartbeats 4000000 in
set_option maxRecDepth 100000 in
theorem c_X2_place (l : Launch) (D : eD) (T : Nat → ClassId) (h_t h_t_sketch h_t_sketch_near h_t_sketch_fans : Nat) (FA : Int32 → Int32 → Int32 → Int32 → (Nat → Int64) → Int64 → Int32 → Int32 → Int64 → Int64 → Int32 → Int32 → Int32 → Int32 → Int32 → Int64 → (Int64 → Int32 → Int32 → Int64 → Int64 → Int32 → Int32 → Prop) → Prop) (fA lA : Nat) (ih : ∀ (t_allBits : Int32) (t_firstOrder : Int64) (t_isBeaten : Int32) (t_isStudy : Int32) (t_isTest : Int32) (t_least : Int32) (t_nodes : Int32) (t_order : Int64) (t_seen : Int64) (t_stillEdges : Int32) (t_symmetries : Int32) (t_sketch_colours : Int64) (t_sketch_darks : Int32) (t_sketch_nodes : Int32) (t_sketch_fans : Nat → Int64) (p1 : Int32) (p2 : Int32) (p3 : Int32) (p4 : Int64) (post : Int64 → Int32 → Int32 → Int64 → Int64 → Int32 → Int32 → Prop), FA t_allBits t_isStudy t_isTest t_nodes t_sketch_fans t_firstOrder t_isBeaten t_least t_order t_seen t_stillEdges t_symmetries p1 p2 p3 p4 post → cV l D T yX2_placeNext cX2_placeNext 11 none fA lA 0 0 [.ref h_t, .int p1, .int p2, .int p3, .long p4] [(h_t, .inr (1, [.ref h_t_sketch, .int t_nodes, .int t_allBits, .int t_isTest, .int t_isBeaten, .int t_isStudy, .long t_order, .int t_least, .int t_symmetries, .long t_firstOrder, .long t_seen, .int t_stillEdges])), (h_t_sketch, .inr (6, [.ref h_t_sketch_near, .ref h_t_sketch_fans, .int t_sketch_nodes, .int t_sketch_darks, .long t_sketch_colours])), (h_t_sketch_fans, aJ T 6 t_sketch_fans)] (fun w1 => ∃ (t_firstOrder1 : Int64) (t_isBeaten1 : Int32) (t_least1 : Int32) (t_order1 : Int64) (t_seen1 : Int64) (t_stillEdges1 : Int32) (t_symmetries1 : Int32), w1 = [(h_t, .inr (1, [.ref h_t_sketch, .int t_nodes, .int t_allBits, .int t_isTest, .int t_isBeaten1, .int t_isStudy, .long t_order1, .int t_least1, .int t_symmetries1, .long t_firstOrder1, .long t_seen1, .int t_stillEdges1])), (h_t_sketch, .inr (6, [.ref h_t_sketch_near, .ref h_t_sketch_fans, .int t_sketch_nodes, .int t_sketch_darks, .long t_sketch_colours])), (h_t_sketch_fans, aJ T 6 t_sketch_fans)] ∧ post t_firstOrder1 t_isBeaten1 t_least1 t_order1 t_seen1 t_stillEdges1 t_symmetries1)) (t_allBits : Int32) (t_firstOrder : Int64) (t_isBeaten : Int32) (t_isStudy : Int32) (t_isTest : Int32) (t_least : Int32) (t_nodes : Int32) (t_order : Int64) (t_seen : Int64) (t_stillEdges : Int32) (t_symmetries : Int32) (t_sketch_colours : Int64) (t_sketch_darks : Int32) (t_sketch_nodes : Int32) (t_sketch_fans : Nat → Int64) (p1 : Int32) (p2 : Int32) (p3 : Int32) (p4 : Int32) (p5 : Int64) (post : Int64 → Int32 → Int32 → Int64 → Int64 → Int32 → Int32 → Prop) (h : F_X2_place FA t_allBits t_isStudy t_isTest t_nodes t_sketch_fans t_firstOrder t_isBeaten t_least t_order t_seen t_stillEdges t_symmetries p1 p2 p3 p4 p5 post) : cV l D T yX2_place cX2_place 7 none (fA + 2) (lA + 51) 0 0 [.ref h_t, .int p1, .int p2, .int p3, .int p4, .long p5] [(h_t, .inr (1, [.ref h_t_sketch, .int t_nodes, .int t_allBits, .int t_isTest, .int t_isBeaten, .int t_isStudy, .long t_order, .int t_least, .int t_symmetries, .long t_firstOrder, .long t_seen, .int t_stillEdges])), (h_t_sketch, .inr (6, [.ref h_t_sketch_near, .ref h_t_sketch_fans, .int t_sketch_nodes, .int t_sketch_darks, .long t_sketch_colours])), (h_t_sketch_fans, aJ T 6 t_sketch_fans)] (fun w1 => ∃ (t_firstOrder1 : Int64) (t_isBeaten1 : Int32) (t_least1 : Int32) (t_order1 : Int64) (t_seen1 : Int64) (t_stillEdges1 : Int32) (t_symmetries1 : Int32), w1 = [(h_t, .inr (1, [.ref h_t_sketch, .int t_nodes, .int t_allBits, .int t_isTest, .int t_isBeaten1, .int t_isStudy, .long t_order1, .int t_least1, .int t_symmetries1, .long t_firstOrder1, .long t_seen1, .int t_stillEdges1])), (h_t_sketch, .inr (6, [.ref h_t_sketch_near, .ref h_t_sketch_fans, .int t_sketch_nodes, .int t_sketch_darks, .long t_sketch_colours])), (h_t_sketch_fans, aJ T 6 t_sketch_fans)] ∧ post t_firstOrder1 t_isBeaten1 t_least1 t_order1 t_seen1 t_stillEdges1 t_symmetries1) := by
  refine xV_of (by decide +kernel) (Nat.le_of_ble_eq_true rfl) rfl ?_
  intro G X hret
  change G 0 0 0 [(0, .ref h_t), (1, .int p1), (2, .int p2), (3, .int p3), (4, .int p4), (5, .long p5)] [] [(h_t, .inr (1, [.ref h_t_sketch, .int t_nodes, .int t_allBits, .int t_isTest, .int t_isBeaten, .int t_isStudy, .long t_order, .int t_least, .int t_symmetries, .long t_firstOrder, .long t_seen, .int t_stillEdges])), (h_t_sketch, .inr (6, [.ref h_t_sketch_near, .ref h_t_sketch_fans, .int t_sketch_nodes, .int t_sketch_darks, .long t_sketch_colours])), (h_t_sketch_fans, aJ T 6 t_sketch_fans)]
  unfold F_X2_place at h
  refine x_aload_n X dX2_place_0 0 rfl ?_
  refine x_aload_n X dX2_place_1 0 rfl ?_
  refine x_get X inGX2 6 (by decide) rfl tw_240 dX2_place_2 rfl 0 rfl rfl ?_
  refine x_ldc2 (v := 7) X tw_371 dX2_place_5 ?_
  refine x_iconst (v := 3) X dX2_place_8 (by decide) ?_
  refine x_iload_n X dX2_place_9 2 rfl ?_
  refine x_imul X dX2_place_10 ?_
  refine x_lshl X dX2_place_11 ?_
  refine x_ldc2 (v := -1) X tw_379 dX2_place_12 ?_
  refine x_lxor X dX2_place_15 ?_
  refine x_land X dX2_place_16 ?_
  refine x_iload_n X dX2_place_17 1 rfl ?_
  refine x_i2l X dX2_place_18 ?_
  refine x_iconst (v := 3) X dX2_place_19 (by decide) ?_
  refine x_iload_n X dX2_place_20 2 rfl ?_
  refine x_imul X dX2_place_21 ?_
  refine x_lshl X dX2_place_22 ?_
  refine x_lor X dX2_place_23 ?_
  refine x_put (ws' := [(h_t, .inr (1, [.ref h_t_sketch, .int t_nodes, .int t_allBits, .int t_isTest, .int t_isBeaten, .int t_isStudy, .long ((t_order &&& (((7 : Int64) <<< (((3 : Int32) * p2).toInt64 &&& 63)) ^^^ (-1 : Int64))) ||| (p1.toInt64 <<< (((3 : Int32) * p2).toInt64 &&& 63))), .int t_least, .int t_symmetries, .long t_firstOrder, .long t_seen, .int t_stillEdges])), (h_t_sketch, .inr (6, [.ref h_t_sketch_near, .ref h_t_sketch_fans, .int t_sketch_nodes, .int t_sketch_darks, .long t_sketch_colours])), (h_t_sketch_fans, aJ T 6 t_sketch_fans)]) X inGX2 tyX2_ok nmX2 6 (by decide) rfl tw_240 dX2_place_24 rfl rfl 0 rfl rfl rfl (Nat.le_of_ble_eq_true rfl) rfl ?_
  refine x_aload_n X dX2_place_27 0 rfl ?_
  refine x_iload_n X dX2_place_28 2 rfl ?_
  refine x_iconst (v := 1) X dX2_place_29 (by decide) ?_
  refine x_iadd X dX2_place_30 ?_
  refine x_iload_n X dX2_place_31 3 rfl ?_
  refine x_iconst (v := 1) X dX2_place_32 (by decide) ?_
  refine x_iload_n X dX2_place_33 1 rfl ?_
  refine x_ishl X dX2_place_34 ?_
  refine x_ior X dX2_place_35 ?_
  refine x_iload X dX2_place_36 4 rfl ?_
  refine x_lload X dX2_place_38 5 rfl ?_
  refine x_iconst (v := 1) X dX2_place_40 (by decide) ?_
  refine x_lshl X dX2_place_41 ?_
  refine x_aload_n X dX2_place_42 0 rfl ?_
  refine x_get X inGX2 0 (by decide) rfl tw_233 dX2_place_43 rfl 0 rfl rfl ?_
  refine x_iload_n X dX2_place_46 1 rfl ?_
  refine x_callVJ (av := [.int p1]) (st := [.long (p5 <<< ((1 : Int32).toInt64 &&& 63)), .int p4, .int (p3 ||| ((1 : Int32) <<< (p1 &&& 31))), .int (p2 + (1 : Int32)), .ref h_t]) (wr := [(h_t, .inr (1, [.ref h_t_sketch, .int t_nodes, .int t_allBits, .int t_isTest, .int t_isBeaten, .int t_isStudy, .long ((t_order &&& (((7 : Int64) <<< (((3 : Int32) * p2).toInt64 &&& 63)) ^^^ (-1 : Int64))) ||| (p1.toInt64 <<< (((3 : Int32) * p2).toInt64 &&& 63))), .int t_least, .int t_symmetries, .long t_firstOrder, .long t_seen, .int t_stillEdges]))]) X (c_X7_fan l D T h_t_sketch h_t_sketch_near h_t_sketch_fans t_sketch_colours t_sketch_darks t_sketch_nodes t_sketch_fans p1 _ h) yk_X7_fan tw_380 dX2_place_47 1 rfl rfl [1, 2] [0] rfl rfl rfl rfl (by decide) rfl rfl (Nat.le_of_ble_eq_true rfl) (by dsimp only [eR]; omega) (by dsimp only [eR]; omega) (Nat.zero_le _) (Nat.zero_le _) (fun r47 w1 hw => ?_)
  obtain ⟨rfl, h⟩ := hw
  refine x_perm (ws2 := [(h_t, .inr (1, [.ref h_t_sketch, .int t_nodes, .int t_allBits, .int t_isTest, .int t_isBeaten, .int t_isStudy, .long ((t_order &&& (((7 : Int64) <<< (((3 : Int32) * p2).toInt64 &&& 63)) ^^^ (-1 : Int64))) ||| (p1.toInt64 <<< (((3 : Int32) * p2).toInt64 &&& 63))), .int t_least, .int t_symmetries, .long t_firstOrder, .long t_seen, .int t_stillEdges])), (h_t_sketch, .inr (6, [.ref h_t_sketch_near, .ref h_t_sketch_fans, .int t_sketch_nodes, .int t_sketch_darks, .long t_sketch_colours])), (h_t_sketch_fans, aJ T 6 t_sketch_fans)]) X [0, 1, 2] rfl rfl ?_
  refine x_lor X dX2_place_50 ?_
  refine x_callVV (av := [.int (p2 + (1 : Int32)), .int (p3 ||| ((1 : Int32) <<< (p1 &&& 31))), .int p4, .long ((p5 <<< ((1 : Int32).toInt64 &&& 63)) ||| r47)]) (st := []) (wr := []) X (ih t_allBits t_firstOrder t_isBeaten t_isStudy t_isTest t_least t_nodes ((t_order &&& (((7 : Int64) <<< (((3 : Int32) * p2).toInt64 &&& 63)) ^^^ (-1 : Int64))) ||| (p1.toInt64 <<< (((3 : Int32) * p2).toInt64 &&& 63))) t_seen t_stillEdges t_symmetries t_sketch_colours t_sketch_darks t_sketch_nodes t_sketch_fans (p2 + (1 : Int32)) (p3 ||| ((1 : Int32) <<< (p1 &&& 31))) p4 ((p5 <<< ((1 : Int32).toInt64 &&& 63)) ||| r47) _ h) yk_X2_placeNext tw_363 dX2_place_51 0 rfl rfl [0, 1, 2] [] rfl rfl rfl rfl (by decide) rfl rfl (Nat.le_of_ble_eq_true rfl) (by dsimp only [eR]; omega) (by dsimp only [eR]; omega) (Nat.zero_le _) (Nat.zero_le _) (fun w1 hw => ?_)
  obtain ⟨t_firstOrder_51, t_isBeaten_51, t_least_51, t_order_51, t_seen_51, t_stillEdges_51, t_symmetries_51, rfl, h⟩ := hw
  refine x_perm (ws2 := [(h_t, .inr (1, [.ref h_t_sketch, .int t_nodes, .int t_allBits, .int t_isTest, .int t_isBeaten_51, .int t_isStudy, .long t_order_51, .int t_least_51, .int t_symmetries_51, .long t_firstOrder_51, .long t_seen_51, .int t_stillEdges_51])), (h_t_sketch, .inr (6, [.ref h_t_sketch_near, .ref h_t_sketch_fans, .int t_sketch_nodes, .int t_sketch_darks, .long t_sketch_colours])), (h_t_sketch_fans, aJ T 6 t_sketch_fans)]) X [0, 1, 2] rfl rfl ?_
  exact hret _ _ _ dX2_place_54 ⟨t_firstOrder_51, t_isBeaten_51, t_least_51, t_order_51, t_seen_51, t_stillEdges_51, t_symmetries_51, rfl, h⟩
theorem dX2_placeNext_0 : decode cX2_placeNext 0 = .ok (.iload_n 1, 1) := by decide +kernel
theorem dX2_placeNext_1 : decode cX2_placeNext 1 = .ok (.aload_n 0, 1) := by decide +kernel
theorem dX2_placeNext_2 : decode cX2_placeNext 2 = .ok (.getfield 61, 3) := by decide +kernel
theorem dX2_placeNext_5 : decode cX2_placeNext 5 = .ok (.if_icmp .lt 9, 3) := by decide +kernel
theorem dX2_placeNext_8 : decode cX2_placeNext 8 = .ok (.aload_n 0, 1) := by decide +kernel
theorem dX2_placeNext_9 : decode cX2_placeNext 9 = .ok (.iload_n 3, 1) := by decide +kernel
theorem dX2_placeNext_10 : decode cX2_placeNext 10 = .ok (.invokevirtual 92, 3) := by decide +kernel
theorem dX2_placeNext_13 : decode cX2_placeNext 13 = .ok (.return_, 1) := by decide +kernel
theorem dX2_placeNext_14 : decode cX2_placeNext 14 = .ok (.bipush 64, 2) := by decide +kernel
theorem dX2_placeNext_16 : decode cX2_placeNext 16 = .ok (.istore 6, 2) := by decide +kernel
theorem dX2_placeNext_18 : decode cX2_placeNext 18 = .ok (.iconst 0, 1) := by decide +kernel
theorem dX2_placeNext_19 : decode cX2_placeNext 19 = .ok (.istore 7, 2) := by decide +kernel
theorem dX2_placeNext_21 : decode cX2_placeNext 21 = .ok (.iconst 0, 1) := by decide +kernel
theorem dX2_placeNext_22 : decode cX2_placeNext 22 = .ok (.istore 8, 2) := by decide +kernel
theorem dX2_placeNext_24 : decode cX2_placeNext 24 = .ok (.iload 8, 2) := by decide +kernel
theorem dX2_placeNext_26 : decode cX2_placeNext 26 = .ok (.aload_n 0, 1) := by decide +kernel
theorem dX2_placeNext_27 : decode cX2_placeNext 27 = .ok (.getfield 61, 3) := by decide +kernel
theorem dX2_placeNext_30 : decode cX2_placeNext 30 = .ok (.if_icmp .ge 61, 3) := by decide +kernel
theorem dX2_placeNext_33 : decode cX2_placeNext 33 = .ok (.lload 4, 2) := by decide +kernel
theorem dX2_placeNext_35 : decode cX2_placeNext 35 = .ok (.iload 8, 2) := by decide +kernel
theorem dX2_placeNext_37 : decode cX2_placeNext 37 = .ok (.invokestatic 96, 3) := by decide +kernel
theorem dX2_placeNext_40 : decode cX2_placeNext 40 = .ok (.istore 9, 2) := by decide +kernel
theorem dX2_placeNext_42 : decode cX2_placeNext 42 = .ok (.iload_n 2, 1) := by decide +kernel
theorem dX2_placeNext_43 : decode cX2_placeNext 43 = .ok (.iload 8, 2) := by decide +kernel
theorem dX2_placeNext_45 : decode cX2_placeNext 45 = .ok (.ishr, 1) := by decide +kernel
theorem dX2_placeNext_46 : decode cX2_placeNext 46 = .ok (.iconst 1, 1) := by decide +kernel
theorem dX2_placeNext_47 : decode cX2_placeNext 47 = .ok (.iand, 1) := by decide +kernel
theorem dX2_placeNext_48 : decode cX2_placeNext 48 = .ok (.ifCond .ne 37, 3) := by decide +kernel
theorem dX2_placeNext_51 : decode cX2_placeNext 51 = .ok (.iload 9, 2) := by decide +kernel
theorem dX2_placeNext_53 : decode cX2_placeNext 53 = .ok (.iload 6, 2) := by decide +kernel
theorem dX2_placeNext_55 : decode cX2_placeNext 55 = .ok (.if_icmp .gt 30, 3) := by decide +kernel
theorem dX2_placeNext_58 : decode cX2_placeNext 58 = .ok (.iload 9, 2) := by decide +kernel
theorem dX2_placeNext_60 : decode cX2_placeNext 60 = .ok (.iload 6, 2) := by decide +kernel
theorem dX2_placeNext_62 : decode cX2_placeNext 62 = .ok (.if_icmp .ge 10, 3) := by decide +kernel
theorem dX2_placeNext_65 : decode cX2_placeNext 65 = .ok (.iconst 1, 1) := by decide +kernel
theorem dX2_placeNext_66 : decode cX2_placeNext 66 = .ok (.iload 8, 2) := by decide +kernel
theorem dX2_placeNext_68 : decode cX2_placeNext 68 = .ok (.ishl, 1) := by decide +kernel
theorem dX2_placeNext_69 : decode cX2_placeNext 69 = .ok (.goto 10, 3) := by decide +kernel
theorem dX2_placeNext_72 : decode cX2_placeNext 72 = .ok (.iload 7, 2) := by decide +kernel
theorem dX2_placeNext_74 : decode cX2_placeNext 74 = .ok (.iconst 1, 1) := by decide +kernel
theorem dX2_placeNext_75 : decode cX2_placeNext 75 = .ok (.iload 8, 2) := by decide +kernel
theorem dX2_placeNext_77 : decode cX2_placeNext 77 = .ok (.ishl, 1) := by decide +kernel
theorem dX2_placeNext_78 : decode cX2_placeNext 78 = .ok (.ior, 1) := by decide +kernel
theorem dX2_placeNext_79 : decode cX2_placeNext 79 = .ok (.istore 7, 2) := by decide +kernel
theorem dX2_placeNext_81 : decode cX2_placeNext 81 = .ok (.iload 9, 2) := by decide +kernel
theorem dX2_placeNext_83 : decode cX2_placeNext 83 = .ok (.istore 6, 2) := by decide +kernel
theorem dX2_placeNext_85 : decode cX2_placeNext 85 = .ok (.iinc 8 1, 3) := by decide +kernel
theorem dX2_placeNext_88 : decode cX2_placeNext 88 = .ok (.goto (-64), 3) := by decide +kernel
theorem dX2_placeNext_91 : decode cX2_placeNext 91 = .ok (.iload_n 3, 1) := by decide +kernel
theorem dX2_placeNext_92 : decode cX2_placeNext 92 = .ok (.iload_n 1, 1) := by decide +kernel
theorem dX2_placeNext_93 : decode cX2_placeNext 93 = .ok (.iconst 1, 1) := by decide +kernel
theorem dX2_placeNext_94 : decode cX2_placeNext 94 = .ok (.iadd, 1) := by decide +kernel
theorem dX2_placeNext_95 : decode cX2_placeNext 95 = .ok (.ishl, 1) := by decide +kernel
theorem dX2_placeNext_96 : decode cX2_placeNext 96 = .ok (.iload 6, 2) := by decide +kernel
theorem dX2_placeNext_98 : decode cX2_placeNext 98 = .ok (.ior, 1) := by decide +kernel
theorem dX2_placeNext_99 : decode cX2_placeNext 99 = .ok (.istore 8, 2) := by decide +kernel
theorem dX2_placeNext_101 : decode cX2_placeNext 101 = .ok (.aload_n 0, 1) := by decide +kernel
theorem dX2_placeNext_102 : decode cX2_placeNext 102 = .ok (.getfield 80, 3) := by decide +kernel
theorem dX2_placeNext_105 : decode cX2_placeNext 105 = .ok (.iload_n 1, 1) := by decide +kernel
theorem dX2_placeNext_106 : decode cX2_placeNext 106 = .ok (.iconst 1, 1) := by decide +kernel
theorem dX2_placeNext_107 : decode cX2_placeNext 107 = .ok (.iadd, 1) := by decide +kernel
theorem dX2_placeNext_108 : decode cX2_placeNext 108 = .ok (.invokestatic 77, 3) := by decide +kernel
theorem dX2_placeNext_111 : decode cX2_placeNext 111 = .ok (.isub, 1) := by decide +kernel
theorem dX2_placeNext_112 : decode cX2_placeNext 112 = .ok (.istore 9, 2) := by decide +kernel
theorem dX2_placeNext_114 : decode cX2_placeNext 114 = .ok (.aload_n 0, 1) := by decide +kernel
theorem dX2_placeNext_115 : decode cX2_placeNext 115 = .ok (.getfield 20, 3) := by decide +kernel
theorem dX2_placeNext_118 : decode cX2_placeNext 118 = .ok (.ifCond .eq 20, 3) := by decide +kernel
theorem dX2_placeNext_121 : decode cX2_placeNext 121 = .ok (.iload 8, 2) := by decide +kernel
theorem dX2_placeNext_123 : decode cX2_placeNext 123 = .ok (.aload_n 0, 1) := by decide +kernel
theorem dX2_placeNext_124 : decode cX2_placeNext 124 = .ok (.getfield 24, 3) := by decide +kernel
theorem dX2_placeNext_127 : decode cX2_placeNext 127 = .ok (.iload 9, 2) := by decide +kernel
theorem dX2_placeNext_129 : decode cX2_placeNext 129 = .ok (.ishr, 1) := by decide +kernel
theorem dX2_placeNext_130 : decode cX2_placeNext 130 = .ok (.if_icmp .ge 8, 3) := by decide +kernel
theorem dX2_placeNext_133 : decode cX2_placeNext 133 = .ok (.aload_n 0, 1) := by decide +kernel
theorem dX2_placeNext_134 : decode cX2_placeNext 134 = .ok (.iconst 1, 1) := by decide +kernel
theorem dX2_placeNext_135 : decode cX2_placeNext 135 = .ok (.putfield 36, 3) := by decide +kernel
theorem dX2_placeNext_138 : decode cX2_placeNext 138 = .ok (.iconst 0, 1) := by decide +kernel
theorem dX2_placeNext_139 : decode cX2_placeNext 139 = .ok (.istore 10, 2) := by decide +kernel
theorem dX2_placeNext_141 : decode cX2_placeNext 141 = .ok (.iload 10, 2) := by decide +kernel
theorem dX2_placeNext_143 : decode cX2_placeNext 143 = .ok (.aload_n 0, 1) := by decide +kernel
theorem dX2_placeNext_144 : decode cX2_placeNext 144 = .ok (.getfield 61, 3) := by decide +kernel
theorem dX2_placeNext_147 : decode cX2_placeNext 147 = .ok (.if_icmp .ge 51, 3) := by decide +kernel
theorem dX2_placeNext_150 : decode cX2_placeNext 150 = .ok (.aload_n 0, 1) := by decide +kernel
theorem dX2_placeNext_151 : decode cX2_placeNext 151 = .ok (.getfield 36, 3) := by decide +kernel
theorem dX2_placeNext_154 : decode cX2_placeNext 154 = .ok (.ifCond .ne 44, 3) := by decide +kernel
theorem dX2_placeNext_157 : decode cX2_placeNext 157 = .ok (.iload 8, 2) := by decide +kernel
theorem dX2_placeNext_159 : decode cX2_placeNext 159 = .ok (.aload_n 0, 1) := by decide +kernel
theorem dX2_placeNext_160 : decode cX2_placeNext 160 = .ok (.getfield 24, 3) := by decide +kernel
theorem dX2_placeNext_163 : decode cX2_placeNext 163 = .ok (.iload 9, 2) := by decide +kernel
theorem dX2_placeNext_165 : decode cX2_placeNext 165 = .ok (.ishr, 1) := by decide +kernel
theorem dX2_placeNext_166 : decode cX2_placeNext 166 = .ok (.if_icmp .gt 32, 3) := by decide +kernel
theorem dX2_placeNext_169 : decode cX2_placeNext 169 = .ok (.iload 7, 2) := by decide +kernel
theorem dX2_placeNext_171 : decode cX2_placeNext 171 = .ok (.iload 10, 2) := by decide +kernel
theorem dX2_placeNext_173 : decode cX2_placeNext 173 = .ok (.ishr, 1) := by decide +kernel
theorem dX2_placeNext_174 : decode cX2_placeNext 174 = .ok (.iconst 1, 1) := by decide +kernel
theorem dX2_placeNext_175 : decode cX2_placeNext 175 = .ok (.iand, 1) := by decide +kernel
theorem dX2_placeNext_176 : decode cX2_placeNext 176 = .ok (.iconst 1, 1) := by decide +kernel
theorem dX2_placeNext_177 : decode cX2_placeNext 177 = .ok (.if_icmp .ne 15, 3) := by decide +kernel
theorem dX2_placeNext_180 : decode cX2_placeNext 180 = .ok (.aload_n 0, 1) := by decide +kernel
theorem dX2_placeNext_181 : decode cX2_placeNext 181 = .ok (.iload 10, 2) := by decide +kernel
theorem dX2_placeNext_183 : decode cX2_placeNext 183 = .ok (.iload_n 1, 1) := by decide +kernel
theorem dX2_placeNext_184 : decode cX2_placeNext 184 = .ok (.iload_n 2, 1) := by decide +kernel
theorem dX2_placeNext_185 : decode cX2_placeNext 185 = .ok (.iload 8, 2) := by decide +kernel
theorem dX2_placeNext_187 : decode cX2_placeNext 187 = .ok (.lload 4, 2) := by decide +kernel
theorem dX2_placeNext_189 : decode cX2_placeNext 189 = .ok (.invokevirtual 100, 3) := by decide +kernel
theorem dX2_placeNext_192 : decode cX2_placeNext 192 = .ok (.iinc 10 1, 3) := by decide +kernel
theorem dX2_placeNext_195 : decode cX2_placeNext 195 = .ok (.goto (-54), 3) := by decide +kernel
theorem dX2_placeNext_198 : decode cX2_placeNext 198 = .ok (.return_, 1) := by decide +kernel
set_option maxHeartbeats 4000000 in
set_option maxRecDepth 100000 in
theorem c_X2_placeNext (l : Launch) (D : eD) (T : Nat → ClassId) (h_t h_t_sketch h_t_sketch_near h_t_sketch_fans : Nat) : ∀ d : Nat, ∀ (t_allBits : Int32) (t_firstOrder : Int64) (t_isBeaten : Int32) (t_isStudy : Int32) (t_isTest : Int32) (t_least : Int32) (t_nodes : Int32) (t_order : Int64) (t_seen : Int64) (t_stillEdges : Int32) (t_symmetries : Int32) (t_sketch_colours : Int64) (t_sketch_darks : Int32) (t_sketch_nodes : Int32) (t_sketch_fans : Nat → Int64) (p1 : Int32) (p2 : Int32) (p3 : Int32) (p4 : Int64) (post : Int64 → Int32 → Int32 → Int64 → Int64 → Int32 → Int32 → Prop), F_X2_placeNext d t_allBits t_isStudy t_isTest t_nodes t_sketch_fans t_firstOrder t_isBeaten t_least t_order t_seen t_stillEdges t_symmetries p1 p2 p3 p4 post → cV l D T yX2_placeNext cX2_placeNext 11 none (3 * d + 1) (77 * d + 32) 0 0 [.ref h_t, .int p1, .int p2, .int p3, .long p4] [(h_t, .inr (1, [.ref h_t_sketch, .int t_nodes, .int t_allBits, .int t_isTest, .int t_isBeaten, .int t_isStudy, .long t_order, .int t_least, .int t_symmetries, .long t_firstOrder, .long t_seen, .int t_stillEdges])), (h_t_sketch, .inr (6, [.ref h_t_sketch_near, .ref h_t_sketch_fans, .int t_sketch_nodes, .int t_sketch_darks, .long t_sketch_colours])), (h_t_sketch_fans, aJ T 6 t_sketch_fans)] (fun w1 => ∃ (t_firstOrder1 : Int64) (t_isBeaten1 : Int32) (t_least1 : Int32) (t_order1 : Int64) (t_seen1 : Int64) (t_stillEdges1 : Int32) (t_symmetries1 : Int32), w1 = [(h_t, .inr (1, [.ref h_t_sketch, .int t_nodes, .int t_allBits, .int t_isTest, .int t_isBeaten1, .int t_isStudy, .long t_order1, .int t_least1, .int t_symmetries1, .long t_firstOrder1, .long t_seen1, .int t_stillEdges1])), (h_t_sketch, .inr (6, [.ref h_t_sketch_near, .ref h_t_sketch_fans, .int t_sketch_nodes, .int t_sketch_darks, .long t_sketch_colours])), (h_t_sketch_fans, aJ T 6 t_sketch_fans)] ∧ post t_firstOrder1 t_isBeaten1 t_least1 t_order1 t_seen1 t_stillEdges1 t_symmetries1) := by
  intro d
  induction d with
  | zero =>
    intro t_allBits t_firstOrder t_isBeaten t_isStudy t_isTest t_least t_nodes t_order t_seen t_stillEdges t_symmetries t_sketch_colours t_sketch_darks t_sketch_nodes t_sketch_fans p1 p2 p3 p4 post h
    exact h.elim
  | succ d ih =>
  intro t_allBits t_firstOrder t_isBeaten t_isStudy t_isTest t_least t_nodes t_order t_seen t_stillEdges t_symmetries t_sketch_colours t_sketch_darks t_sketch_nodes t_sketch_fans p1 p2 p3 p4 post h
  have h : FB_X2_placeNext (F_X2_placeNext d) t_allBits t_isStudy t_isTest t_nodes t_sketch_fans t_firstOrder t_isBeaten t_least t_order t_seen t_stillEdges t_symmetries p1 p2 p3 p4 post := h
  generalize F_X2_placeNext d = FA at h ih
  refine xV_of (by decide +kernel) (Nat.le_of_ble_eq_true rfl) rfl ?_
  intro G X hret
  change G 0 0 0 [(0, .ref h_t), (1, .int p1), (2, .int p2), (3, .int p3), (4, .long p4)] [] [(h_t, .inr (1, [.ref h_t_sketch, .int t_nodes, .int t_allBits, .int t_isTest, .int t_isBeaten, .int t_isStudy, .long t_order, .int t_least, .int t_symmetries, .long t_firstOrder, .long t_seen, .int t_stillEdges])), (h_t_sketch, .inr (6, [.ref h_t_sketch_near, .ref h_t_sketch_fans, .int t_sketch_nodes, .int t_sketch_darks, .long t_sketch_colours])), (h_t_sketch_fans, aJ T 6 t_sketch_fans)]
  unfold FB_X2_placeNext at h
  have k24 : ∀ (n24 : Nat) (x1 : Int32) (x2 : Int32) (x3 : Int32) (x4 : Int64) (x6 : Int32) (x7 : Int32) (x8 : Int32) (t_firstOrder : Int64) (t_isBeaten : Int32) (t_least : Int32) (t_order : Int64) (t_seen : Int64) (t_stillEdges : Int32) (t_symmetries : Int32), F_X2_placeNext_24 FA t_allBits t_isStudy t_isTest t_nodes t_sketch_fans post n24 x1 x2 x3 x4 x6 x7 x8 t_firstOrder t_isBeaten t_least t_order t_seen t_stillEdges t_symmetries → G 0 0 24 [(0, .ref h_t), (1, .int x1), (2, .int x2), (3, .int x3), (4, .long x4), (6, .int x6), (7, .int x7), (8, .int x8)] [] [(h_t, .inr (1, [.ref h_t_sketch, .int t_nodes, .int t_allBits, .int t_isTest, .int t_isBeaten, .int t_isStudy, .long t_order, .int t_least, .int t_symmetries, .long t_firstOrder, .long t_seen, .int t_stillEdges])), (h_t_sketch, .inr (6, [.ref h_t_sketch_near, .ref h_t_sketch_fans, .int t_sketch_nodes, .int t_sketch_darks, .long t_sketch_colours])), (h_t_sketch_fans, aJ T 6 t_sketch_fans)] := by
    intro n24
    induction n24 with
    | zero => intro x1 x2 x3 x4 x6 x7 x8 t_firstOrder t_isBeaten t_least t_order t_seen t_stillEdges t_symmetries h; exact h.elim
    | succ n24 ih24 =>
      intro x1 x2 x3 x4 x6 x7 x8 t_firstOrder t_isBeaten t_least t_order t_seen t_stillEdges t_symmetries h
      rw [F_X2_placeNext_24] at h
      have k85 : ∀ (x1 : Int32) (x2 : Int32) (x3 : Int32) (x4 : Int64) (x6 : Int32) (x7 : Int32) (x8 : Int32) (t_firstOrder : Int64) (t_isBeaten : Int32) (t_least : Int32) (t_order : Int64) (t_seen : Int64) (t_stillEdges : Int32) (t_symmetries : Int32), F_X2_placeNext_85 FA t_allBits t_isStudy t_isTest t_nodes t_sketch_fans post (F_X2_placeNext_24 FA t_allBits t_isStudy t_isTest t_nodes t_sketch_fans post n24) x1 x2 x3 x4 x6 x7 x8 t_firstOrder t_isBeaten t_least t_order t_seen t_stillEdges t_symmetries → G 0 0 85 [(0, .ref h_t), (1, .int x1), (2, .int x2), (3, .int x3), (4, .long x4), (6, .int x6), (7, .int x7), (8, .int x8)] [] [(h_t, .inr (1, [.ref h_t_sketch, .int t_nodes, .int t_allBits, .int t_isTest, .int t_isBeaten, .int t_isStudy, .long t_order, .int t_least, .int t_symmetries, .long t_firstOrder, .long t_seen, .int t_stillEdges])), (h_t_sketch, .inr (6, [.ref h_t_sketch_near, .ref h_t_sketch_fans, .int t_sketch_nodes, .int t_sketch_darks, .long t_sketch_colours])), (h_t_sketch_fans, aJ T 6 t_sketch_fans)] := by
        intro x1 x2 x3 x4 x6 x7 x8 t_firstOrder t_isBeaten t_least t_order t_seen t_stillEdges t_symmetries h
        unfold F_X2_placeNext_85 at h
        refine x_iinc (v := (x8 + 1)) (lv' := [(8, .int (x8 + 1)), (0, .ref h_t), (1, .int x1), (2, .int x2), (3, .int x3), (4, .long x4), (6, .int x6), (7, .int x7)]) X dX2_placeNext_85 7 rfl rfl (by decide) rfl ?_
        refine x_goto (tgt := 24) X dX2_placeNext_88 (by decide) ?_
        exact x_sub X [1, 2, 3, 4, 5, 6, 7, 0] rfl (ih24 x1 x2 x3 x4 x6 x7 (x8 + 1) t_firstOrder t_isBeaten t_least t_order t_seen t_stillEdges t_symmetries h)
      have k79 : ∀ (x1 : Int32) (x2 : Int32) (x3 : Int32) (x4 : Int64) (x8 : Int32) (x9 : Int32) (s0 : Int32) (t_firstOrder : Int64) (t_isBeaten : Int32) (t_least : Int32) (t_order : Int64) (t_seen : Int64) (t_stillEdges : Int32) (t_symmetries : Int32), F_X2_placeNext_79 FA t_allBits t_isStudy t_isTest t_nodes t_sketch_fans post (fun x1 x2 x3 x4 x6 x7 x8 t_firstOrder t_isBeaten t_least t_order t_seen t_stillEdges t_symmetries => F_X2_placeNext_85 FA t_allBits t_isStudy t_isTest t_nodes t_sketch_fans post (F_X2_placeNext_24 FA t_allBits t_isStudy t_isTest t_nodes t_sketch_fans post n24) x1 x2 x3 x4 x6 x7 x8 t_firstOrder t_isBeaten t_least t_order t_seen t_stillEdges t_symmetries) x1 x2 x3 x4 x8 x9 s0 t_firstOrder t_isBeaten t_least t_order t_seen t_stillEdges t_symmetries → G 0 0 79 [(0, .ref h_t), (1, .int x1), (2, .int x2), (3, .int x3), (4, .long x4), (8, .int x8), (9, .int x9)] [.int s0] [(h_t, .inr (1, [.ref h_t_sketch, .int t_nodes, .int t_allBits, .int t_isTest, .int t_isBeaten, .int t_isStudy, .long t_order, .int t_least, .int t_symmetries, .long t_firstOrder, .long t_seen, .int t_stillEdges])), (h_t_sketch, .inr (6, [.ref h_t_sketch_near, .ref h_t_sketch_fans, .int t_sketch_nodes, .int t_sketch_darks, .long t_sketch_colours])), (h_t_sketch_fans, aJ T 6 t_sketch_fans)] := by
        intro x1 x2 x3 x4 x8 x9 s0 t_firstOrder t_isBeaten t_least t_order t_seen t_stillEdges t_symmetries h
        unfold F_X2_placeNext_79 at h
        refine x_istore (lv' := [(7, .int s0), (0, .ref h_t), (1, .int x1), (2, .int x2), (3, .int x3), (4, .long x4), (8, .int x8), (9, .int x9)]) X dX2_placeNext_79 (by decide) rfl ?_
        refine x_iload X dX2_placeNext_81 7 rfl ?_
        refine x_istore (lv' := [(6, .int x9), (7, .int s0), (0, .ref h_t), (1, .int x1), (2, .int x2), (3, .int x3), (4, .long x4), (8, .int x8), (9, .int x9)]) X dX2_placeNext_83 (by decide) rfl ?_
        exact x_sub X [2, 3, 4, 5, 6, 0, 1, 7] rfl (k85 x1 x2 x3 x4 x9 s0 x8 t_firstOrder t_isBeaten t_least t_order t_seen t_stillEdges t_symmetries h)
      have k138 : ∀ (x1 : Int32) (x2 : Int32) (x4 : Int64) (x7 : Int32) (x8 : Int32) (x9 : Int32) (t_firstOrder : Int64) (t_isBeaten : Int32) (t_least : Int32) (t_order : Int64) (t_seen : Int64) (t_stillEdges : Int32) (t_symmetries : Int32), F_X2_placeNext_138 FA t_allBits t_isStudy t_isTest t_nodes t_sketch_fans post x1 x2 x4 x7 x8 x9 t_firstOrder t_isBeaten t_least t_order t_seen t_stillEdges t_symmetries → G 0 0 138 [(0, .ref h_t), (1, .int x1), (2, .int x2), (4, .long x4), (7, .int x7), (8, .int x8), (9, .int x9)] [] [(h_t, .inr (1, [.ref h_t_sketch, .int t_nodes, .int t_allBits, .int t_isTest, .int t_isBeaten, .int t_isStudy, .long t_order, .int t_least, .int t_symmetries, .long t_firstOrder, .long t_seen, .int t_stillEdges])), (h_t_sketch, .inr (6, [.ref h_t_sketch_near, .ref h_t_sketch_fans, .int t_sketch_nodes, .int t_sketch_darks, .long t_sketch_colours])), (h_t_sketch_fans, aJ T 6 t_sketch_fans)] := by
        intro x1 x2 x4 x7 x8 x9 t_firstOrder t_isBeaten t_least t_order t_seen t_stillEdges t_symmetries h
        unfold F_X2_placeNext_138 at h
        have k141 : ∀ (n141 : Nat) (x1 : Int32) (x2 : Int32) (x4 : Int64) (x7 : Int32) (x8 : Int32) (x9 : Int32) (x10 : Int32) (t_firstOrder : Int64) (t_isBeaten : Int32) (t_least : Int32) (t_order : Int64) (t_seen : Int64) (t_stillEdges : Int32) (t_symmetries : Int32), F_X2_placeNext_141 FA t_allBits t_isStudy t_isTest t_nodes t_sketch_fans post n141 x1 x2 x4 x7 x8 x9 x10 t_firstOrder t_isBeaten t_least t_order t_seen t_stillEdges t_symmetries → G 0 0 141 [(0, .ref h_t), (1, .int x1), (2, .int x2), (4, .long x4), (7, .int x7), (8, .int x8), (9, .int x9), (10, .int x10)] [] [(h_t, .inr (1, [.ref h_t_sketch, .int t_nodes, .int t_allBits, .int t_isTest, .int t_isBeaten, .int t_isStudy, .long t_order, .int t_least, .int t_symmetries, .long t_firstOrder, .long t_seen, .int t_stillEdges])), (h_t_sketch, .inr (6, [.ref h_t_sketch_near, .ref h_t_sketch_fans, .int t_sketch_nodes, .int t_sketch_darks, .long t_sketch_colours])), (h_t_sketch_fans, aJ T 6 t_sketch_fans)] := by
          intro n141
          induction n141 with
          | zero => intro x1 x2 x4 x7 x8 x9 x10 t_firstOrder t_isBeaten t_least t_order t_seen t_stillEdges t_symmetries h; exact h.elim
          | succ n141 ih141 =>
            intro x1 x2 x4 x7 x8 x9 x10 t_firstOrder t_isBeaten t_least t_order t_seen t_stillEdges t_symmetries h
            rw [F_X2_placeNext_141] at h
            have k192 : ∀ (x1 : Int32) (x2 : Int32) (x4 : Int64) (x7 : Int32) (x8 : Int32) (x9 : Int32) (x10 : Int32) (t_firstOrder : Int64) (t_isBeaten : Int32) (t_least : Int32) (t_order : Int64) (t_seen : Int64) (t_stillEdges : Int32) (t_symmetries : Int32), F_X2_placeNext_192 FA t_allBits t_isStudy t_isTest t_nodes t_sketch_fans post (F_X2_placeNext_141 FA t_allBits t_isStudy t_isTest t_nodes t_sketch_fans post n141) x1 x2 x4 x7 x8 x9 x10 t_firstOrder t_isBeaten t_least t_order t_seen t_stillEdges t_symmetries → G 0 0 192 [(0, .ref h_t), (1, .int x1), (2, .int x2), (4, .long x4), (7, .int x7), (8, .int x8), (9, .int x9), (10, .int x10)] [] [(h_t, .inr (1, [.ref h_t_sketch, .int t_nodes, .int t_allBits, .int t_isTest, .int t_isBeaten, .int t_isStudy, .long t_order, .int t_least, .int t_symmetries, .long t_firstOrder, .long t_seen, .int t_stillEdges])), (h_t_sketch, .inr (6, [.ref h_t_sketch_near, .ref h_t_sketch_fans, .int t_sketch_nodes, .int t_sketch_darks, .long t_sketch_colours])), (h_t_sketch_fans, aJ T 6 t_sketch_fans)] := by
              intro x1 x2 x4 x7 x8 x9 x10 t_firstOrder t_isBeaten t_least t_order t_seen t_stillEdges t_symmetries h
              unfold F_X2_placeNext_192 at h
              refine x_iinc (v := (x10 + 1)) (lv' := [(10, .int (x10 + 1)), (0, .ref h_t), (1, .int x1), (2, .int x2), (4, .long x4), (7, .int x7), (8, .int x8), (9, .int x9)]) X dX2_placeNext_192 7 rfl rfl (by decide) rfl ?_
              refine x_goto (tgt := 141) X dX2_placeNext_195 (by decide) ?_
              exact x_sub X [1, 2, 3, 4, 5, 6, 7, 0] rfl (ih141 x1 x2 x4 x7 x8 x9 (x10 + 1) t_firstOrder t_isBeaten t_least t_order t_seen t_stillEdges t_symmetries h)
            have k198 : ∀ (t_firstOrder : Int64) (t_isBeaten : Int32) (t_least : Int32) (t_order : Int64) (t_seen : Int64) (t_stillEdges : Int32) (t_symmetries : Int32), F_X2_placeNext_198 FA t_allBits t_isStudy t_isTest t_nodes t_sketch_fans post t_firstOrder t_isBeaten t_least t_order t_seen t_stillEdges t_symmetries → G 0 0 198 [] [] [(h_t, .inr (1, [.ref h_t_sketch, .int t_nodes, .int t_allBits, .int t_isTest, .int t_isBeaten, .int t_isStudy, .long t_order, .int t_least, .int t_symmetries, .long t_firstOrder, .long t_seen, .int t_stillEdges])), (h_t_sketch, .inr (6, [.ref h_t_sketch_near, .ref h_t_sketch_fans, .int t_sketch_nodes, .int t_sketch_darks, .long t_sketch_colours])), (h_t_sketch_fans, aJ T 6 t_sketch_fans)] := by
              intro t_firstOrder t_isBeaten t_least t_order t_seen t_stillEdges t_symmetries h
              unfold F_X2_placeNext_198 at h
              exact hret _ _ _ dX2_placeNext_198 ⟨t_firstOrder, t_isBeaten, t_least, t_order, t_seen, t_stillEdges, t_symmetries, rfl, h⟩
            refine x_iload X dX2_placeNext_141 7 rfl ?_
            refine x_aload_n X dX2_placeNext_143 0 rfl ?_
            refine x_get X inGX2 1 (by decide) rfl tw_234 dX2_placeNext_144 rfl 0 rfl rfl ?_
            refine x_icmp_ge (tgt := 198) X dX2_placeNext_147 (by decide) (fun hc => ?_) (fun hc => ?_)
            · have h := h.1 hc
              exact x_sub X [] rfl (k198 t_firstOrder t_isBeaten t_least t_order t_seen t_stillEdges t_symmetries h)
            · have h := h.2 hc
              refine x_aload_n X dX2_placeNext_150 0 rfl ?_
              refine x_get X inGX2 4 (by decide) rfl tw_238 dX2_placeNext_151 rfl 0 rfl rfl ?_
              refine x_if_ne (tgt := 198) X dX2_placeNext_154 (by decide) (fun hc => ?_) (fun hc => ?_)
              · have h := h.1 hc
                exact x_sub X [] rfl (k198 t_firstOrder t_isBeaten t_least t_order t_seen t_stillEdges t_symmetries h)
              · have h := h.2 hc
                refine x_iload X dX2_placeNext_157 5 rfl ?_
                refine x_aload_n X dX2_placeNext_159 0 rfl ?_
                refine x_get X inGX2 7 (by decide) rfl tw_241 dX2_placeNext_160 rfl 0 rfl rfl ?_
                refine x_iload X dX2_placeNext_163 6 rfl ?_
                refine x_ishr X dX2_placeNext_165 ?_
                refine x_icmp_gt (tgt := 198) X dX2_placeNext_166 (by decide) (fun hc => ?_) (fun hc => ?_)
                · have h := h.1 hc
                  exact x_sub X [] rfl (k198 t_firstOrder t_isBeaten t_least t_order t_seen t_stillEdges t_symmetries h)
                · have h := h.2 hc
                  refine x_iload X dX2_placeNext_169 4 rfl ?_
                  refine x_iload X dX2_placeNext_171 7 rfl ?_
                  refine x_ishr X dX2_placeNext_173 ?_
                  refine x_iconst (v := 1) X dX2_placeNext_174 (by decide) ?_
                  refine x_iand X dX2_placeNext_175 ?_
                  refine x_iconst (v := 1) X dX2_placeNext_176 (by decide) ?_
                  refine x_icmp_ne (tgt := 192) X dX2_placeNext_177 (by decide) (fun hc => ?_) (fun hc => ?_)
                  · have h := h.1 hc
                    exact x_sub X [0, 1, 2, 3, 4, 5, 6, 7] rfl (k192 x1 x2 x4 x7 x8 x9 x10 t_firstOrder t_isBeaten t_least t_order t_seen t_stillEdges t_symmetries h)
                  · have h := h.2 hc
                    refine x_aload_n X dX2_placeNext_180 0 rfl ?_
                    refine x_iload X dX2_placeNext_181 7 rfl ?_
                    refine x_iload_n X dX2_placeNext_183 1 rfl ?_
                    refine x_iload_n X dX2_placeNext_184 2 rfl ?_
                    refine x_iload X dX2_placeNext_185 5 rfl ?_
                    refine x_lload X dX2_placeNext_187 3 rfl ?_
                    refine x_callVV (av := [.int x10, .int x1, .int x2, .int x8, .long x4]) (st := []) (wr := []) X (c_X2_place l D T h_t h_t_sketch h_t_sketch_near h_t_sketch_fans FA (3 * d + 1) (77 * d + 32) ih t_allBits t_firstOrder t_isBeaten t_isStudy t_isTest t_least t_nodes t_order t_seen t_stillEdges t_symmetries t_sketch_colours t_sketch_darks t_sketch_nodes t_sketch_fans x10 x1 x2 x8 x4 _ h) yk_X2_place tw_375 dX2_placeNext_189 0 rfl rfl [0, 1, 2] [] rfl rfl rfl rfl (by decide) rfl rfl (Nat.le_of_ble_eq_true rfl) (by dsimp only [eR]; omega) (by dsimp only [eR]; omega) (Nat.zero_le _) (Nat.zero_le _) (fun w1 hw => ?_)
                    obtain ⟨t_firstOrder_189, t_isBeaten_189, t_least_189, t_order_189, t_seen_189, t_stillEdges_189, t_symmetries_189, rfl, h⟩ := hw
                    refine x_perm (ws2 := [(h_t, .inr (1, [.ref h_t_sketch, .int t_nodes, .int t_allBits, .int t_isTest, .int t_isBeaten_189, .int t_isStudy, .long t_order_189, .int t_least_189, .int t_symmetries_189, .long t_firstOrder_189, .long t_seen_189, .int t_stillEdges_189])), (h_t_sketch, .inr (6, [.ref h_t_sketch_near, .ref h_t_sketch_fans, .int t_sketch_nodes, .int t_sketch_darks, .long t_sketch_colours])), (h_t_sketch_fans, aJ T 6 t_sketch_fans)]) X [0, 1, 2] rfl rfl ?_
                    exact x_sub X [0, 1, 2, 3, 4, 5, 6, 7] rfl (k192 x1 x2 x4 x7 x8 x9 x10 t_firstOrder_189 t_isBeaten_189 t_least_189 t_order_189 t_seen_189 t_stillEdges_189 t_symmetries_189 h)
        refine x_iconst (v := 0) X dX2_placeNext_138 (by decide) ?_
        refine x_istore (lv' := [(10, .int (0 : Int32)), (0, .ref h_t), (1, .int x1), (2, .int x2), (4, .long x4), (7, .int x7), (8, .int x8), (9, .int x9)]) X dX2_placeNext_139 (by decide) rfl ?_
        obtain ⟨n141, h⟩ := h
        exact x_sub X [1, 2, 3, 4, 5, 6, 7, 0] rfl (k141 n141 x1 x2 x4 x7 x8 x9 (0 : Int32) t_firstOrder t_isBeaten t_least t_order t_seen t_stillEdges t_symmetries h)
      refine x_iload X dX2_placeNext_24 7 rfl ?_
      refine x_aload_n X dX2_placeNext_26 0 rfl ?_
      refine x_get X inGX2 1 (by decide) rfl tw_234 dX2_placeNext_27 rfl 0 rfl rfl ?_
      refine x_icmp_ge (tgt := 91) X dX2_placeNext_30 (by decide) (fun hc => ?_) (fun hc => ?_)
      · have h := h.1 hc
        refine x_iload_n X dX2_placeNext_91 3 rfl ?_
        refine x_iload_n X dX2_placeNext_92 1 rfl ?_
        refine x_iconst (v := 1) X dX2_placeNext_93 (by decide) ?_
        refine x_iadd X dX2_placeNext_94 ?_
        refine x_ishl X dX2_placeNext_95 ?_
        refine x_iload X dX2_placeNext_96 5 rfl ?_
        refine x_ior X dX2_placeNext_98 ?_
        refine x_istore (lv' := [(8, .int ((x3 <<< ((x1 + (1 : Int32)) &&& 31)) ||| x6)), (0, .ref h_t), (1, .int x1), (2, .int x2), (3, .int x3), (4, .long x4), (6, .int x6), (7, .int x7)]) X dX2_placeNext_99 (by decide) rfl ?_
        refine x_aload_n X dX2_placeNext_101 1 rfl ?_
        refine x_get X inGX2 2 (by decide) rfl tw_236 dX2_placeNext_102 rfl 0 rfl rfl ?_
        refine x_iload_n X dX2_placeNext_105 2 rfl ?_
        refine x_iconst (v := 1) X dX2_placeNext_106 (by decide) ?_
        refine x_iadd X dX2_placeNext_107 ?_
        refine x_callSI (av := [.int (x1 + (1 : Int32))]) (st := [.int t_allBits]) (wr := [(h_t, .inr (1, [.ref h_t_sketch, .int t_nodes, .int t_allBits, .int t_isTest, .int t_isBeaten, .int t_isStudy, .long t_order, .int t_least, .int t_symmetries, .long t_firstOrder, .long t_seen, .int t_stillEdges])), (h_t_sketch, .inr (6, [.ref h_t_sketch_near, .ref h_t_sketch_fans, .int t_sketch_nodes, .int t_sketch_darks, .long t_sketch_colours])), (h_t_sketch_fans, aJ T 6 t_sketch_fans)]) X (c_X0_bits l D T  (x1 + (1 : Int32)) _ h) yk_X0_bits tw_362 dX2_placeNext_108 [] [0, 1, 2] rfl rfl rfl rfl (by decide) rfl rfl (Nat.le_of_ble_eq_true rfl) (by dsimp only [eR]; omega) (by dsimp only [eR]; omega) (Nat.zero_le _) (Nat.zero_le _) (fun r108 w1 hw => ?_)
        obtain ⟨rfl, h⟩ := hw
        refine x_perm (ws2 := [(h_t, .inr (1, [.ref h_t_sketch, .int t_nodes, .int t_allBits, .int t_isTest, .int t_isBeaten, .int t_isStudy, .long t_order, .int t_least, .int t_symmetries, .long t_firstOrder, .long t_seen, .int t_stillEdges])), (h_t_sketch, .inr (6, [.ref h_t_sketch_near, .ref h_t_sketch_fans, .int t_sketch_nodes, .int t_sketch_darks, .long t_sketch_colours])), (h_t_sketch_fans, aJ T 6 t_sketch_fans)]) X [0, 1, 2] rfl rfl ?_
        refine x_isub X dX2_placeNext_111 ?_
        refine x_istore (lv' := [(9, .int (t_allBits - r108)), (8, .int ((x3 <<< ((x1 + (1 : Int32)) &&& 31)) ||| x6)), (0, .ref h_t), (1, .int x1), (2, .int x2), (3, .int x3), (4, .long x4), (6, .int x6), (7, .int x7)]) X dX2_placeNext_112 (by decide) rfl ?_
        refine x_aload_n X dX2_placeNext_114 2 rfl ?_
        refine x_get X inGX2 3 (by decide) rfl tw_237 dX2_placeNext_115 rfl 0 rfl rfl ?_
        refine x_if_eq (tgt := 138) X dX2_placeNext_118 (by decide) (fun hc => ?_) (fun hc => ?_)
        · have h := h.1 hc
          exact x_sub X [2, 3, 4, 6, 8, 1, 0] rfl (k138 x1 x2 x4 x7 ((x3 <<< ((x1 + (1 : Int32)) &&& 31)) ||| x6) (t_allBits - r108) t_firstOrder t_isBeaten t_least t_order t_seen t_stillEdges t_symmetries h)
        · have h := h.2 hc
          refine x_iload X dX2_placeNext_121 1 rfl ?_
          refine x_aload_n X dX2_placeNext_123 2 rfl ?_
          refine x_get X inGX2 7 (by decide) rfl tw_241 dX2_placeNext_124 rfl 0 rfl rfl ?_
          refine x_iload X dX2_placeNext_127 0 rfl ?_
          refine x_ishr X dX2_placeNext_129 ?_
          refine x_icmp_ge (tgt := 138) X dX2_placeNext_130 (by decide) (fun hc => ?_) (fun hc => ?_)
          · have h := h.1 hc
            exact x_sub X [2, 3, 4, 6, 8, 1, 0] rfl (k138 x1 x2 x4 x7 ((x3 <<< ((x1 + (1 : Int32)) &&& 31)) ||| x6) (t_allBits - r108) t_firstOrder t_isBeaten t_least t_order t_seen t_stillEdges t_symmetries h)
          · have h := h.2 hc
            refine x_aload_n X dX2_placeNext_133 2 rfl ?_
            refine x_iconst (v := 1) X dX2_placeNext_134 (by decide) ?_
            refine x_put (ws' := [(h_t, .inr (1, [.ref h_t_sketch, .int t_nodes, .int t_allBits, .int t_isTest, .int (1 : Int32), .int t_isStudy, .long t_order, .int t_least, .int t_symmetries, .long t_firstOrder, .long t_seen, .int t_stillEdges])), (h_t_sketch, .inr (6, [.ref h_t_sketch_near, .ref h_t_sketch_fans, .int t_sketch_nodes, .int t_sketch_darks, .long t_sketch_colours])), (h_t_sketch_fans, aJ T 6 t_sketch_fans)]) X inGX2 tyX2_ok nmX2 4 (by decide) rfl tw_238 dX2_placeNext_135 rfl rfl 0 rfl rfl rfl (Nat.le_of_ble_eq_true rfl) rfl ?_
            exact x_sub X [2, 3, 4, 6, 8, 1, 0] rfl (k138 x1 x2 x4 x7 ((x3 <<< ((x1 + (1 : Int32)) &&& 31)) ||| x6) (t_allBits - r108) t_firstOrder (1 : Int32) t_least t_order t_seen t_stillEdges t_symmetries h)
      · have h := h.2 hc
        refine x_lload X dX2_placeNext_33 4 rfl ?_
        refine x_iload X dX2_placeNext_35 7 rfl ?_
        refine x_callSI (av := [.long x4, .int x8]) (st := []) (wr := [(h_t, .inr (1, [.ref h_t_sketch, .int t_nodes, .int t_allBits, .int t_isTest, .int t_isBeaten, .int t_isStudy, .long t_order, .int t_least, .int t_symmetries, .long t_firstOrder, .long t_seen, .int t_stillEdges])), (h_t_sketch, .inr (6, [.ref h_t_sketch_near, .ref h_t_sketch_fans, .int t_sketch_nodes, .int t_sketch_darks, .long t_sketch_colours])), (h_t_sketch_fans, aJ T 6 t_sketch_fans)]) X (c_X7_block l D T  x4 x8 _ h) yk_X7_block tw_372 dX2_placeNext_37 [] [0, 1, 2] rfl rfl rfl rfl (by decide) rfl rfl (Nat.le_of_ble_eq_true rfl) (by dsimp only [eR]; omega) (by dsimp only [eR]; omega) (Nat.zero_le _) (Nat.zero_le _) (fun r37 w1 hw => ?_)
        obtain ⟨rfl, h⟩ := hw
        refine x_perm (ws2 := [(h_t, .inr (1, [.ref h_t_sketch, .int t_nodes, .int t_allBits, .int t_isTest, .int t_isBeaten, .int t_isStudy, .long t_order, .int t_least, .int t_symmetries, .long t_firstOrder, .long t_seen, .int t_stillEdges])), (h_t_sketch, .inr (6, [.ref h_t_sketch_near, .ref h_t_sketch_fans, .int t_sketch_nodes, .int t_sketch_darks, .long t_sketch_colours])), (h_t_sketch_fans, aJ T 6 t_sketch_fans)]) X [0, 1, 2] rfl rfl ?_
        refine x_istore (lv' := [(9, .int r37), (0, .ref h_t), (1, .int x1), (2, .int x2), (3, .int x3), (4, .long x4), (6, .int x6), (7, .int x7), (8, .int x8)]) X dX2_placeNext_40 (by decide) rfl ?_
        refine x_iload_n X dX2_placeNext_42 3 rfl ?_
        refine x_iload X dX2_placeNext_43 8 rfl ?_
        refine x_ishr X dX2_placeNext_45 ?_
        refine x_iconst (v := 1) X dX2_placeNext_46 (by decide) ?_
        refine x_iand X dX2_placeNext_47 ?_
        refine x_if_ne (tgt := 85) X dX2_placeNext_48 (by decide) (fun hc => ?_) (fun hc => ?_)
        · have h := h.1 hc
          exact x_sub X [1, 2, 3, 4, 5, 6, 7, 8] rfl (k85 x1 x2 x3 x4 x6 x7 x8 t_firstOrder t_isBeaten t_least t_order t_seen t_stillEdges t_symmetries h)
        · have h := h.2 hc
          refine x_iload X dX2_placeNext_51 0 rfl ?_
          refine x_iload X dX2_placeNext_53 6 rfl ?_
          refine x_icmp_gt (tgt := 85) X dX2_placeNext_55 (by decide) (fun hc => ?_) (fun hc => ?_)
          · have h := h.1 hc
            exact x_sub X [1, 2, 3, 4, 5, 6, 7, 8] rfl (k85 x1 x2 x3 x4 x6 x7 x8 t_firstOrder t_isBeaten t_least t_order t_seen t_stillEdges t_symmetries h)
          · have h := h.2 hc
            refine x_iload X dX2_placeNext_58 0 rfl ?_
            refine x_iload X dX2_placeNext_60 6 rfl ?_
            refine x_icmp_ge (tgt := 72) X dX2_placeNext_62 (by decide) (fun hc => ?_) (fun hc => ?_)
            · have h := h.1 hc
              refine x_iload X dX2_placeNext_72 7 rfl ?_
              refine x_iconst (v := 1) X dX2_placeNext_74 (by decide) ?_
              refine x_iload X dX2_placeNext_75 8 rfl ?_
              refine x_ishl X dX2_placeNext_77 ?_
              refine x_ior X dX2_placeNext_78 ?_
              exact x_sub X [1, 2, 3, 4, 5, 8, 0] rfl (k79 x1 x2 x3 x4 x8 r37 (x7 ||| ((1 : Int32) <<< (x8 &&& 31))) t_firstOrder t_isBeaten t_least t_order t_seen t_stillEdges t_symmetries h)
            · have h := h.2 hc
              refine x_iconst (v := 1) X dX2_placeNext_65 (by decide) ?_
              refine x_iload X dX2_placeNext_66 8 rfl ?_
              refine x_ishl X dX2_placeNext_68 ?_
              refine x_goto (tgt := 79) X dX2_placeNext_69 (by decide) ?_
              exact x_sub X [1, 2, 3, 4, 5, 8, 0] rfl (k79 x1 x2 x3 x4 x8 r37 ((1 : Int32) <<< (x8 &&& 31)) t_firstOrder t_isBeaten t_least t_order t_seen t_stillEdges t_symmetries h)
  refine x_iload_n X dX2_placeNext_0 1 rfl ?_
  refine x_aload_n X dX2_placeNext_1 0 rfl ?_
  refine x_get X inGX2 1 (by decide) rfl tw_234 dX2_placeNext_2 rfl 0 rfl rfl ?_
  refine x_icmp_lt (tgt := 14) X dX2_placeNext_5 (by decide) (fun hc => ?_) (fun hc => ?_)
  · have h := h.1 hc
    refine x_bipush (v := 64) X dX2_placeNext_14 (by decide) ?_
    refine x_istore (lv' := [(6, .int (64 : Int32)), (0, .ref h_t), (1, .int p1), (2, .int p2), (3, .int p3), (4, .long p4)]) X dX2_placeNext_16 (by decide) rfl ?_
    refine x_iconst (v := 0) X dX2_placeNext_18 (by decide) ?_
    refine x_istore (lv' := [(7, .int (0 : Int32)), (6, .int (64 : Int32)), (0, .ref h_t), (1, .int p1), (2, .int p2), (3, .int p3), (4, .long p4)]) X dX2_placeNext_19 (by decide) rfl ?_
    refine x_iconst (v := 0) X dX2_placeNext_21 (by decide) ?_
    refine x_istore (lv' := [(8, .int (0 : Int32)), (7, .int (0 : Int32)), (6, .int (64 : Int32)), (0, .ref h_t), (1, .int p1), (2, .int p2), (3, .int p3), (4, .long p4)]) X dX2_placeNext_22 (by decide) rfl ?_
    obtain ⟨n24, h⟩ := h
    exact x_sub X [3, 4, 5, 6, 7, 2, 1, 0] rfl (k24 n24 p1 p2 p3 p4 (64 : Int32) (0 : Int32) (0 : Int32) t_firstOrder t_isBeaten t_least t_order t_seen t_stillEdges t_symmetries h)
  · have h := h.2 hc
    refine x_aload_n X dX2_placeNext_8 0 rfl ?_
    refine x_iload_n X dX2_placeNext_9 3 rfl ?_
    refine x_callVV (av := [.int p3]) (st := []) (wr := [(h_t_sketch, .inr (6, [.ref h_t_sketch_near, .ref h_t_sketch_fans, .int t_sketch_nodes, .int t_sketch_darks, .long t_sketch_colours])), (h_t_sketch_fans, aJ T 6 t_sketch_fans)]) X (c_X2_arrive l D T h_t h_t_sketch t_allBits t_firstOrder t_isBeaten t_isStudy t_isTest t_least t_nodes t_order t_seen t_stillEdges t_symmetries p3 _ h) yk_X2_arrive tw_367 dX2_placeNext_10 0 rfl rfl [0] [1, 2] rfl rfl rfl rfl (by decide) rfl rfl (Nat.le_of_ble_eq_true rfl) (by dsimp only [eR]; omega) (by dsimp only [eR]; omega) (Nat.zero_le _) (Nat.zero_le _) (fun w1 hw => ?_)
    obtain ⟨t_firstOrder_10, t_least_10, t_seen_10, t_stillEdges_10, t_symmetries_10, rfl, h⟩ := hw
    refine x_perm (ws2 := [(h_t, .inr (1, [.ref h_t_sketch, .int t_nodes, .int t_allBits, .int t_isTest, .int t_isBeaten, .int t_isStudy, .long t_order, .int t_least_10, .int t_symmetries_10, .long t_firstOrder_10, .long t_seen_10, .int t_stillEdges_10])), (h_t_sketch, .inr (6, [.ref h_t_sketch_near, .ref h_t_sketch_fans, .int t_sketch_nodes, .int t_sketch_darks, .long t_sketch_colours])), (h_t_sketch_fans, aJ T 6 t_sketch_fans)]) X [2, 0, 1] rfl rfl ?_
    exact hret _ _ _ dX2_placeNext_13 ⟨t_firstOrder_10, t_isBeaten, t_least_10, t_order, t_seen_10, t_stillEdges_10, t_symmetries_10, rfl, h⟩
theorem dX2_isForm_0 : decode cX2_isForm 0 = .ok (.aload_n 0, 1) := by decide +kernel
theorem dX2_isForm_1 : decode cX2_isForm 1 = .ok (.iload_n 1, 1) := by decide +kernel
theorem dX2_isForm_2 : decode cX2_isForm 2 = .ok (.iload_n 2, 1) := by decide +kernel
theorem dX2_isForm_3 : decode cX2_isForm 3 = .ok (.invokevirtual 16, 3) := by decide +kernel
theorem dX2_isForm_6 : decode cX2_isForm 6 = .ok (.aload_n 0, 1) := by decide +kernel
theorem dX2_isForm_7 : decode cX2_isForm 7 = .ok (.iconst 1, 1) := by decide +kernel
theorem dX2_isForm_8 : decode cX2_isForm 8 = .ok (.putfield 20, 3) := by decide +kernel
theorem dX2_isForm_11 : decode cX2_isForm 11 = .ok (.aload_n 0, 1) := by decide +kernel
theorem dX2_isForm_12 : decode cX2_isForm 12 = .ok (.iload_n 2, 1) := by decide +kernel
theorem dX2_isForm_13 : decode cX2_isForm 13 = .ok (.putfield 24, 3) := by decide +kernel
theorem dX2_isForm_16 : decode cX2_isForm 16 = .ok (.aload_n 0, 1) := by decide +kernel
theorem dX2_isForm_17 : decode cX2_isForm 17 = .ok (.iconst 0, 1) := by decide +kernel
theorem dX2_isForm_18 : decode cX2_isForm 18 = .ok (.iconst 0, 1) := by decide +kernel
theorem dX2_isForm_19 : decode cX2_isForm 19 = .ok (.iconst 0, 1) := by decide +kernel
theorem dX2_isForm_20 : decode cX2_isForm 20 = .ok (.aload_n 0, 1) := by decide +kernel
theorem dX2_isForm_21 : decode cX2_isForm 21 = .ok (.getfield 10, 3) := by decide +kernel
theorem dX2_isForm_24 : decode cX2_isForm 24 = .ok (.getfield 28, 3) := by decide +kernel
theorem dX2_isForm_27 : decode cX2_isForm 27 = .ok (.invokevirtual 32, 3) := by decide +kernel
theorem dX2_isForm_30 : decode cX2_isForm 30 = .ok (.aload_n 0, 1) := by decide +kernel
theorem dX2_isForm_31 : decode cX2_isForm 31 = .ok (.getfield 36, 3) := by decide +kernel
theorem dX2_isForm_34 : decode cX2_isForm 34 = .ok (.ifCond .ne 7, 3) := by decide +kernel
theorem dX2_isForm_37 : decode cX2_isForm 37 = .ok (.iconst 1, 1) := by decide +kernel
theorem dX2_isForm_38 : decode cX2_isForm 38 = .ok (.goto 4, 3) := by decide +kernel
theorem dX2_isForm_41 : decode cX2_isForm 41 = .ok (.iconst 0, 1) := by decide +kernel
theorem dX2_isForm_42 : decode cX2_isForm 42 = .ok (.ireturn, 1) := by decide +kernel
set_option maxHeartbeats 4000000 in
set_option maxRecDepth 100000 in
theorem c_X2_isForm (l : Launch) (D : eD) (T : Nat → ClassId) (h_t h_t_sketch h_t_sketch_near h_t_sketch_fans : Nat) (t_allBits : Int32) (t_firstOrder : Int64) (t_isBeaten : Int32) (t_isStudy : Int32) (t_isTest : Int32) (t_least : Int32) (t_nodes : Int32) (t_order : Int64) (t_seen : Int64) (t_stillEdges : Int32) (t_symmetries : Int32) (t_sketch_colours : Int64) (t_sketch_darks : Int32) (t_sketch_nodes : Int32) (t_sketch_fans : Nat → Int64) (t_sketch_near : Nat → Int32) (p1 : Int32) (p2 : Int32) (post : Int32 → Int32 → Int64 → Int32 → Int32 → Int32 → Int32 → Int32 → Int64 → Int64 → Int32 → Int32 → Int64 → Int32 → Int32 → (Nat → Int64) → (Nat → Int32) → Prop) (h : F_X2_isForm t_allBits t_firstOrder t_isBeaten t_isStudy t_isTest t_least t_nodes t_order t_seen t_stillEdges t_symmetries t_sketch_colours t_sketch_darks t_sketch_nodes t_sketch_fans t_sketch_near p1 p2 post) : cI l D T yX2_isForm cX2_isForm 3 (some .boolean) 32 832 0 0 [.ref h_t, .int p1, .int p2] [(h_t, .inr (1, [.ref h_t_sketch, .int t_nodes, .int t_allBits, .int t_isTest, .int t_isBeaten, .int t_isStudy, .long t_order, .int t_least, .int t_symmetries, .long t_firstOrder, .long t_seen, .int t_stillEdges])), (h_t_sketch, .inr (6, [.ref h_t_sketch_near, .ref h_t_sketch_fans, .int t_sketch_nodes, .int t_sketch_darks, .long t_sketch_colours])), (h_t_sketch_fans, aJ T 6 t_sketch_fans), (h_t_sketch_near, aI T 6 t_sketch_near)] (fun r w1 => ∃ (t_allBits1 : Int32) (t_firstOrder1 : Int64) (t_isBeaten1 : Int32) (t_isStudy1 : Int32) (t_isTest1 : Int32) (t_least1 : Int32) (t_nodes1 : Int32) (t_order1 : Int64) (t_seen1 : Int64) (t_stillEdges1 : Int32) (t_symmetries1 : Int32) (t_sketch_colours1 : Int64) (t_sketch_darks1 : Int32) (t_sketch_nodes1 : Int32) (t_sketch_fans1 : Nat → Int64) (t_sketch_near1 : Nat → Int32), w1 = [(h_t, .inr (1, [.ref h_t_sketch, .int t_nodes1, .int t_allBits1, .int t_isTest1, .int t_isBeaten1, .int t_isStudy1, .long t_order1, .int t_least1, .int t_symmetries1, .long t_firstOrder1, .long t_seen1, .int t_stillEdges1])), (h_t_sketch, .inr (6, [.ref h_t_sketch_near, .ref h_t_sketch_fans, .int t_sketch_nodes1, .int t_sketch_darks1, .long t_sketch_colours1])), (h_t_sketch_fans, aJ T 6 t_sketch_fans1), (h_t_sketch_near, aI T 6 t_sketch_near1)] ∧ post r t_allBits1 t_firstOrder1 t_isBeaten1 t_isStudy1 t_isTest1 t_least1 t_nodes1 t_order1 t_seen1 t_stillEdges1 t_symmetries1 t_sketch_colours1 t_sketch_darks1 t_sketch_nodes1 t_sketch_fans1 t_sketch_near1) := by
  refine xI_of (ty := .boolean) (by decide +kernel) (Nat.le_of_ble_eq_true rfl) rfl ?_
  intro G X hret
  change G 0 0 0 [(0, .ref h_t), (1, .int p1), (2, .int p2)] [] [(h_t, .inr (1, [.ref h_t_sketch, .int t_nodes, .int t_allBits, .int t_isTest, .int t_isBeaten, .int t_isStudy, .long t_order, .int t_least, .int t_symmetries, .long t_firstOrder, .long t_seen, .int t_stillEdges])), (h_t_sketch, .inr (6, [.ref h_t_sketch_near, .ref h_t_sketch_fans, .int t_sketch_nodes, .int t_sketch_darks, .long t_sketch_colours])), (h_t_sketch_fans, aJ T 6 t_sketch_fans), (h_t_sketch_near, aI T 6 t_sketch_near)]
  unfold F_X2_isForm at h
  have k42 : ∀ (s0 : Int32) (t_allBits : Int32) (t_firstOrder : Int64) (t_isBeaten : Int32) (t_isStudy : Int32) (t_isTest : Int32) (t_least : Int32) (t_nodes : Int32) (t_order : Int64) (t_seen : Int64) (t_stillEdges : Int32) (t_symmetries : Int32) (t_sketch_colours : Int64) (t_sketch_darks : Int32) (t_sketch_nodes : Int32) (t_sketch_fans : Nat → Int64) (t_sketch_near : Nat → Int32), F_X2_isForm_42 post s0 t_allBits t_firstOrder t_isBeaten t_isStudy t_isTest t_least t_nodes t_order t_seen t_stillEdges t_symmetries t_sketch_colours t_sketch_darks t_sketch_nodes t_sketch_fans t_sketch_near → G 0 0 42 [] [.int s0] [(h_t, .inr (1, [.ref h_t_sketch, .int t_nodes, .int t_allBits, .int t_isTest, .int t_isBeaten, .int t_isStudy, .long t_order, .int t_least, .int t_symmetries, .long t_firstOrder, .long t_seen, .int t_stillEdges])), (h_t_sketch, .inr (6, [.ref h_t_sketch_near, .ref h_t_sketch_fans, .int t_sketch_nodes, .int t_sketch_darks, .long t_sketch_colours])), (h_t_sketch_fans, aJ T 6 t_sketch_fans), (h_t_sketch_near, aI T 6 t_sketch_near)] := by
    intro s0 t_allBits t_firstOrder t_isBeaten t_isStudy t_isTest t_least t_nodes t_order t_seen t_stillEdges t_symmetries t_sketch_colours t_sketch_darks t_sketch_nodes t_sketch_fans t_sketch_near h
    unfold F_X2_isForm_42 at h
    obtain ⟨hz, h⟩ := h
    exact hret _ _ _ _ dX2_isForm_42 (e_nz hz) ⟨t_allBits, t_firstOrder, t_isBeaten, t_isStudy, t_isTest, t_least, t_nodes, t_order, t_seen, t_stillEdges, t_symmetries, t_sketch_colours, t_sketch_darks, t_sketch_nodes, t_sketch_fans, t_sketch_near, rfl, h⟩
  refine x_aload_n X dX2_isForm_0 0 rfl ?_
  refine x_iload_n X dX2_isForm_1 1 rfl ?_
  refine x_iload_n X dX2_isForm_2 2 rfl ?_
  refine x_callVV (av := [.int p1, .int p2]) (st := []) (wr := []) X (c_X2_begin l D T h_t h_t_sketch h_t_sketch_near h_t_sketch_fans t_allBits t_firstOrder t_isBeaten t_isStudy t_isTest t_least t_nodes t_order t_seen t_stillEdges t_symmetries t_sketch_colours t_sketch_darks t_sketch_nodes t_sketch_fans t_sketch_near p1 p2 _ h) yk_X2_begin tw_344 dX2_isForm_3 0 rfl rfl [0, 1, 2, 3] [] rfl rfl rfl rfl (by decide) rfl rfl (Nat.le_of_ble_eq_true rfl) (Nat.le_of_ble_eq_true rfl) (Nat.le_of_ble_eq_true rfl) (Nat.zero_le _) (Nat.zero_le _) (fun w1 hw => ?_)
  obtain ⟨t_allBits_3, t_isBeaten_3, t_isStudy_3, t_isTest_3, t_least_3, t_nodes_3, t_symmetries_3, t_sketch_colours_3, t_sketch_darks_3, t_sketch_nodes_3, t_sketch_fans_3, t_sketch_near_3, rfl, h⟩ := hw
  refine x_perm (ws2 := [(h_t, .inr (1, [.ref h_t_sketch, .int t_nodes_3, .int t_allBits_3, .int t_isTest_3, .int t_isBeaten_3, .int t_isStudy_3, .long t_order, .int t_least_3, .int t_symmetries_3, .long t_firstOrder, .long t_seen, .int t_stillEdges])), (h_t_sketch, .inr (6, [.ref h_t_sketch_near, .ref h_t_sketch_fans, .int t_sketch_nodes_3, .int t_sketch_darks_3, .long t_sketch_colours_3])), (h_t_sketch_fans, aJ T 6 t_sketch_fans_3), (h_t_sketch_near, aI T 6 t_sketch_near_3)]) X [0, 1, 2, 3] rfl rfl ?_
  refine x_aload_n X dX2_isForm_6 0 rfl ?_
  refine x_iconst (v := 1) X dX2_isForm_7 (by decide) ?_
  refine x_put (ws' := [(h_t, .inr (1, [.ref h_t_sketch, .int t_nodes_3, .int t_allBits_3, .int (1 : Int32), .int t_isBeaten_3, .int t_isStudy_3, .long t_order, .int t_least_3, .int t_symmetries_3, .long t_firstOrder, .long t_seen, .int t_stillEdges])), (h_t_sketch, .inr (6, [.ref h_t_sketch_near, .ref h_t_sketch_fans, .int t_sketch_nodes_3, .int t_sketch_darks_3, .long t_sketch_colours_3])), (h_t_sketch_fans, aJ T 6 t_sketch_fans_3), (h_t_sketch_near, aI T 6 t_sketch_near_3)]) X inGX2 tyX2_ok nmX2 3 (by decide) rfl tw_237 dX2_isForm_8 rfl rfl 0 rfl rfl rfl (Nat.le_of_ble_eq_true rfl) rfl ?_
  refine x_aload_n X dX2_isForm_11 0 rfl ?_
  refine x_iload_n X dX2_isForm_12 2 rfl ?_
  refine x_put (ws' := [(h_t, .inr (1, [.ref h_t_sketch, .int t_nodes_3, .int t_allBits_3, .int (1 : Int32), .int t_isBeaten_3, .int t_isStudy_3, .long t_order, .int p2, .int t_symmetries_3, .long t_firstOrder, .long t_seen, .int t_stillEdges])), (h_t_sketch, .inr (6, [.ref h_t_sketch_near, .ref h_t_sketch_fans, .int t_sketch_nodes_3, .int t_sketch_darks_3, .long t_sketch_colours_3])), (h_t_sketch_fans, aJ T 6 t_sketch_fans_3), (h_t_sketch_near, aI T 6 t_sketch_near_3)]) X inGX2 tyX2_ok nmX2 7 (by decide) rfl tw_241 dX2_isForm_13 rfl rfl 0 rfl rfl rfl (Nat.le_of_ble_eq_true rfl) rfl ?_
  refine x_aload_n X dX2_isForm_16 0 rfl ?_
  refine x_iconst (v := 0) X dX2_isForm_17 (by decide) ?_
  refine x_iconst (v := 0) X dX2_isForm_18 (by decide) ?_
  refine x_iconst (v := 0) X dX2_isForm_19 (by decide) ?_
  refine x_aload_n X dX2_isForm_20 0 rfl ?_
  refine x_get X inGX2 0 (by decide) rfl tw_233 dX2_isForm_21 rfl 0 rfl rfl ?_
  refine x_getN X inGX7 4 (by decide) rfl tw_220 dX2_isForm_24 rfl 1 rfl rfl ?_
  refine x_callVV (av := [.int (0 : Int32), .int (0 : Int32), .int (0 : Int32), .long t_sketch_colours_3]) (st := []) (wr := [(h_t_sketch_near, aI T 6 t_sketch_near_3)]) X (c_X2_placeNext l D T h_t h_t_sketch h_t_sketch_near h_t_sketch_fans 10 t_allBits_3 t_firstOrder t_isBeaten_3 t_isStudy_3 (1 : Int32) p2 t_nodes_3 t_order t_seen t_stillEdges t_symmetries_3 t_sketch_colours_3 t_sketch_darks_3 t_sketch_nodes_3 t_sketch_fans_3 (0 : Int32) (0 : Int32) (0 : Int32) t_sketch_colours_3 _ h) yk_X2_placeNext tw_363 dX2_isForm_27 0 rfl rfl [0, 1, 2] [3] rfl rfl rfl rfl (by decide) rfl rfl (Nat.le_of_ble_eq_true rfl) (Nat.le_of_ble_eq_true rfl) (Nat.le_of_ble_eq_true rfl) (Nat.zero_le _) (Nat.zero_le _) (fun w1 hw => ?_)
  obtain ⟨t_firstOrder_27, t_isBeaten_27, t_least_27, t_order_27, t_seen_27, t_stillEdges_27, t_symmetries_27, rfl, h⟩ := hw
  refine x_perm (ws2 := [(h_t, .inr (1, [.ref h_t_sketch, .int t_nodes_3, .int t_allBits_3, .int (1 : Int32), .int t_isBeaten_27, .int t_isStudy_3, .long t_order_27, .int t_least_27, .int t_symmetries_27, .long t_firstOrder_27, .long t_seen_27, .int t_stillEdges_27])), (h_t_sketch, .inr (6, [.ref h_t_sketch_near, .ref h_t_sketch_fans, .int t_sketch_nodes_3, .int t_sketch_darks_3, .long t_sketch_colours_3])), (h_t_sketch_fans, aJ T 6 t_sketch_fans_3), (h_t_sketch_near, aI T 6 t_sketch_near_3)]) X [1, 2, 3, 0] rfl rfl ?_
  refine x_aload_n X dX2_isForm_30 0 rfl ?_
  refine x_get X inGX2 4 (by decide) rfl tw_238 dX2_isForm_31 rfl 0 rfl rfl ?_
  refine x_if_ne (tgt := 41) X dX2_isForm_34 (by decide) (fun hc => ?_) (fun hc => ?_)
  · have h := h.1 hc
    refine x_iconst (v := 0) X dX2_isForm_41 (by decide) ?_
    exact x_sub X [] rfl (k42 (0 : Int32) t_allBits_3 t_firstOrder_27 t_isBeaten_27 t_isStudy_3 (1 : Int32) t_least_27 t_nodes_3 t_order_27 t_seen_27 t_stillEdges_27 t_symmetries_27 t_sketch_colours_3 t_sketch_darks_3 t_sketch_nodes_3 t_sketch_fans_3 t_sketch_near_3 h)
  · have h := h.2 hc
    refine x_iconst (v := 1) X dX2_isForm_37 (by decide) ?_
    refine x_goto (tgt := 42) X dX2_isForm_38 (by decide) ?_
    exact x_sub X [] rfl (k42 (1 : Int32) t_allBits_3 t_firstOrder_27 t_isBeaten_27 t_isStudy_3 (1 : Int32) t_least_27 t_nodes_3 t_order_27 t_seen_27 t_stillEdges_27 t_symmetries_27 t_sketch_colours_3 t_sketch_darks_3 t_sketch_nodes_3 t_sketch_fans_3 t_sketch_near_3 h)
theorem dX2_leastOf_0 : decode cX2_leastOf 0 = .ok (.aload_n 0, 1) := by decide +kernel
theorem dX2_leastOf_1 : decode cX2_leastOf 1 = .ok (.iload_n 1, 1) := by decide +kernel
theorem dX2_leastOf_2 : decode cX2_leastOf 2 = .ok (.iload_n 2, 1) := by decide +kernel
theorem dX2_leastOf_3 : decode cX2_leastOf 3 = .ok (.invokevirtual 16, 3) := by decide +kernel
theorem dX2_leastOf_6 : decode cX2_leastOf 6 = .ok (.aload_n 0, 1) := by decide +kernel
theorem dX2_leastOf_7 : decode cX2_leastOf 7 = .ok (.iconst 0, 1) := by decide +kernel
theorem dX2_leastOf_8 : decode cX2_leastOf 8 = .ok (.iconst 0, 1) := by decide +kernel
theorem dX2_leastOf_9 : decode cX2_leastOf 9 = .ok (.iconst 0, 1) := by decide +kernel
theorem dX2_leastOf_10 : decode cX2_leastOf 10 = .ok (.aload_n 0, 1) := by decide +kernel
theorem dX2_leastOf_11 : decode cX2_leastOf 11 = .ok (.getfield 10, 3) := by decide +kernel
theorem dX2_leastOf_14 : decode cX2_leastOf 14 = .ok (.getfield 28, 3) := by decide +kernel
theorem dX2_leastOf_17 : decode cX2_leastOf 17 = .ok (.invokevirtual 32, 3) := by decide +kernel
theorem dX2_leastOf_20 : decode cX2_leastOf 20 = .ok (.aload_n 0, 1) := by decide +kernel
theorem dX2_leastOf_21 : decode cX2_leastOf 21 = .ok (.getfield 24, 3) := by decide +kernel
theorem dX2_leastOf_24 : decode cX2_leastOf 24 = .ok (.ireturn, 1) := by decide +kernel
set_option maxHeartbeats 4000000 in
set_option maxRecDepth 100000 in
theorem c_X2_leastOf (l : Launch) (D : eD) (T : Nat → ClassId) (h_t h_t_sketch h_t_sketch_near h_t_sketch_fans : Nat) (t_allBits : Int32) (t_firstOrder : Int64) (t_isBeaten : Int32) (t_isStudy : Int32) (t_isTest : Int32) (t_least : Int32) (t_nodes : Int32) (t_order : Int64) (t_seen : Int64) (t_stillEdges : Int32) (t_symmetries : Int32) (t_sketch_colours : Int64) (t_sketch_darks : Int32) (t_sketch_nodes : Int32) (t_sketch_fans : Nat → Int64) (t_sketch_near : Nat → Int32) (p1 : Int32) (p2 : Int32) (post : Int32 → Int32 → Int64 → Int32 → Int32 → Int32 → Int32 → Int32 → Int64 → Int64 → Int32 → Int32 → Int64 → Int32 → Int32 → (Nat → Int64) → (Nat → Int32) → Prop) (h : F_X2_leastOf t_allBits t_firstOrder t_isBeaten t_isStudy t_isTest t_least t_nodes t_order t_seen t_stillEdges t_symmetries t_sketch_colours t_sketch_darks t_sketch_nodes t_sketch_fans t_sketch_near p1 p2 post) : cI l D T yX2_leastOf cX2_leastOf 3 (some .int) 32 832 0 0 [.ref h_t, .int p1, .int p2] [(h_t, .inr (1, [.ref h_t_sketch, .int t_nodes, .int t_allBits, .int t_isTest, .int t_isBeaten, .int t_isStudy, .long t_order, .int t_least, .int t_symmetries, .long t_firstOrder, .long t_seen, .int t_stillEdges])), (h_t_sketch, .inr (6, [.ref h_t_sketch_near, .ref h_t_sketch_fans, .int t_sketch_nodes, .int t_sketch_darks, .long t_sketch_colours])), (h_t_sketch_fans, aJ T 6 t_sketch_fans), (h_t_sketch_near, aI T 6 t_sketch_near)] (fun r w1 => ∃ (t_allBits1 : Int32) (t_firstOrder1 : Int64) (t_isBeaten1 : Int32) (t_isStudy1 : Int32) (t_isTest1 : Int32) (t_least1 : Int32) (t_nodes1 : Int32) (t_order1 : Int64) (t_seen1 : Int64) (t_stillEdges1 : Int32) (t_symmetries1 : Int32) (t_sketch_colours1 : Int64) (t_sketch_darks1 : Int32) (t_sketch_nodes1 : Int32) (t_sketch_fans1 : Nat → Int64) (t_sketch_near1 : Nat → Int32), w1 = [(h_t, .inr (1, [.ref h_t_sketch, .int t_nodes1, .int t_allBits1, .int t_isTest1, .int t_isBeaten1, .int t_isStudy1, .long t_order1, .int t_least1, .int t_symmetries1, .long t_firstOrder1, .long t_seen1, .int t_stillEdges1])), (h_t_sketch, .inr (6, [.ref h_t_sketch_near, .ref h_t_sketch_fans, .int t_sketch_nodes1, .int t_sketch_darks1, .long t_sketch_colours1])), (h_t_sketch_fans, aJ T 6 t_sketch_fans1), (h_t_sketch_near, aI T 6 t_sketch_near1)] ∧ post r t_allBits1 t_firstOrder1 t_isBeaten1 t_isStudy1 t_isTest1 t_least1 t_nodes1 t_order1 t_seen1 t_stillEdges1 t_symmetries1 t_sketch_colours1 t_sketch_darks1 t_sketch_nodes1 t_sketch_fans1 t_sketch_near1) := by
  refine xI_of (ty := .int) (by decide +kernel) (Nat.le_of_ble_eq_true rfl) rfl ?_
  intro G X hret
  change G 0 0 0 [(0, .ref h_t), (1, .int p1), (2, .int p2)] [] [(h_t, .inr (1, [.ref h_t_sketch, .int t_nodes, .int t_allBits, .int t_isTest, .int t_isBeaten, .int t_isStudy, .long t_order, .int t_least, .int t_symmetries, .long t_firstOrder, .long t_seen, .int t_stillEdges])), (h_t_sketch, .inr (6, [.ref h_t_sketch_near, .ref h_t_sketch_fans, .int t_sketch_nodes, .int t_sketch_darks, .long t_sketch_colours])), (h_t_sketch_fans, aJ T 6 t_sketch_fans), (h_t_sketch_near, aI T 6 t_sketch_near)]
  unfold F_X2_leastOf at h
  refine x_aload_n X dX2_leastOf_0 0 rfl ?_
  refine x_iload_n X dX2_leastOf_1 1 rfl ?_
  refine x_iload_n X dX2_leastOf_2 2 rfl ?_
  refine x_callVV (av := [.int p1, .int p2]) (st := []) (wr := []) X (c_X2_begin l D T h_t h_t_sketch h_t_sketch_near h_t_sketch_fans t_allBits t_firstOrder t_isBeaten t_isStudy t_isTest t_least t_nodes t_order t_seen t_stillEdges t_symmetries t_sketch_colours t_sketch_darks t_sketch_nodes t_sketch_fans t_sketch_near p1 p2 _ h) yk_X2_begin tw_344 dX2_leastOf_3 0 rfl rfl [0, 1, 2, 3] [] rfl rfl rfl rfl (by decide) rfl rfl (Nat.le_of_ble_eq_true rfl) (Nat.le_of_ble_eq_true rfl) (Nat.le_of_ble_eq_true rfl) (Nat.zero_le _) (Nat.zero_le _) (fun w1 hw => ?_)
  obtain ⟨t_allBits_3, t_isBeaten_3, t_isStudy_3, t_isTest_3, t_least_3, t_nodes_3, t_symmetries_3, t_sketch_colours_3, t_sketch_darks_3, t_sketch_nodes_3, t_sketch_fans_3, t_sketch_near_3, rfl, h⟩ := hw
  refine x_perm (ws2 := [(h_t, .inr (1, [.ref h_t_sketch, .int t_nodes_3, .int t_allBits_3, .int t_isTest_3, .int t_isBeaten_3, .int t_isStudy_3, .long t_order, .int t_least_3, .int t_symmetries_3, .long t_firstOrder, .long t_seen, .int t_stillEdges])), (h_t_sketch, .inr (6, [.ref h_t_sketch_near, .ref h_t_sketch_fans, .int t_sketch_nodes_3, .int t_sketch_darks_3, .long t_sketch_colours_3])), (h_t_sketch_fans, aJ T 6 t_sketch_fans_3), (h_t_sketch_near, aI T 6 t_sketch_near_3)]) X [0, 1, 2, 3] rfl rfl ?_
  refine x_aload_n X dX2_leastOf_6 0 rfl ?_
  refine x_iconst (v := 0) X dX2_leastOf_7 (by decide) ?_
  refine x_iconst (v := 0) X dX2_leastOf_8 (by decide) ?_
  refine x_iconst (v := 0) X dX2_leastOf_9 (by decide) ?_
  refine x_aload_n X dX2_leastOf_10 0 rfl ?_
  refine x_get X inGX2 0 (by decide) rfl tw_233 dX2_leastOf_11 rfl 0 rfl rfl ?_
  refine x_getN X inGX7 4 (by decide) rfl tw_220 dX2_leastOf_14 rfl 1 rfl rfl ?_
  refine x_callVV (av := [.int (0 : Int32), .int (0 : Int32), .int (0 : Int32), .long t_sketch_colours_3]) (st := []) (wr := [(h_t_sketch_near, aI T 6 t_sketch_near_3)]) X (c_X2_placeNext l D T h_t h_t_sketch h_t_sketch_near h_t_sketch_fans 10 t_allBits_3 t_firstOrder t_isBeaten_3 t_isStudy_3 t_isTest_3 t_least_3 t_nodes_3 t_order t_seen t_stillEdges t_symmetries_3 t_sketch_colours_3 t_sketch_darks_3 t_sketch_nodes_3 t_sketch_fans_3 (0 : Int32) (0 : Int32) (0 : Int32) t_sketch_colours_3 _ h) yk_X2_placeNext tw_363 dX2_leastOf_17 0 rfl rfl [0, 1, 2] [3] rfl rfl rfl rfl (by decide) rfl rfl (Nat.le_of_ble_eq_true rfl) (Nat.le_of_ble_eq_true rfl) (Nat.le_of_ble_eq_true rfl) (Nat.zero_le _) (Nat.zero_le _) (fun w1 hw => ?_)
  obtain ⟨t_firstOrder_17, t_isBeaten_17, t_least_17, t_order_17, t_seen_17, t_stillEdges_17, t_symmetries_17, rfl, h⟩ := hw
  refine x_perm (ws2 := [(h_t, .inr (1, [.ref h_t_sketch, .int t_nodes_3, .int t_allBits_3, .int t_isTest_3, .int t_isBeaten_17, .int t_isStudy_3, .long t_order_17, .int t_least_17, .int t_symmetries_17, .long t_firstOrder_17, .long t_seen_17, .int t_stillEdges_17])), (h_t_sketch, .inr (6, [.ref h_t_sketch_near, .ref h_t_sketch_fans, .int t_sketch_nodes_3, .int t_sketch_darks_3, .long t_sketch_colours_3])), (h_t_sketch_fans, aJ T 6 t_sketch_fans_3), (h_t_sketch_near, aI T 6 t_sketch_near_3)]) X [1, 2, 3, 0] rfl rfl ?_
  refine x_aload_n X dX2_leastOf_20 0 rfl ?_
  refine x_get X inGX2 7 (by decide) rfl tw_241 dX2_leastOf_21 rfl 0 rfl rfl ?_
  exact hret _ _ _ _ dX2_leastOf_24 rfl ⟨t_allBits_3, t_firstOrder_17, t_isBeaten_17, t_isStudy_3, t_isTest_3, t_least_17, t_nodes_3, t_order_17, t_seen_17, t_stillEdges_17, t_symmetries_17, t_sketch_colours_3, t_sketch_darks_3, t_sketch_nodes_3, t_sketch_fans_3, t_sketch_near_3, rfl, h⟩
theorem dX2_symmetriesOf_0 : decode cX2_symmetriesOf 0 = .ok (.aload_n 0, 1) := by decide +kernel
theorem dX2_symmetriesOf_1 : decode cX2_symmetriesOf 1 = .ok (.iload_n 1, 1) := by decide +kernel
theorem dX2_symmetriesOf_2 : decode cX2_symmetriesOf 2 = .ok (.iload_n 2, 1) := by decide +kernel
theorem dX2_symmetriesOf_3 : decode cX2_symmetriesOf 3 = .ok (.invokevirtual 39, 3) := by decide +kernel
theorem dX2_symmetriesOf_6 : decode cX2_symmetriesOf 6 = .ok (.pop, 1) := by decide +kernel
theorem dX2_symmetriesOf_7 : decode cX2_symmetriesOf 7 = .ok (.aload_n 0, 1) := by decide +kernel
theorem dX2_symmetriesOf_8 : decode cX2_symmetriesOf 8 = .ok (.getfield 43, 3) := by decide +kernel
theorem dX2_symmetriesOf_11 : decode cX2_symmetriesOf 11 = .ok (.ireturn, 1) := by decide +kernel
set_option maxHeartbeats 4000000 in
set_option maxRecDepth 100000 in
theorem c_X2_symmetriesOf (l : Launch) (D : eD) (T : Nat → ClassId) (h_t h_t_sketch h_t_sketch_near h_t_sketch_fans : Nat) (t_allBits : Int32) (t_firstOrder : Int64) (t_isBeaten : Int32) (t_isStudy : Int32) (t_isTest : Int32) (t_least : Int32) (t_nodes : Int32) (t_order : Int64) (t_seen : Int64) (t_stillEdges : Int32) (t_symmetries : Int32) (t_sketch_colours : Int64) (t_sketch_darks : Int32) (t_sketch_nodes : Int32) (t_sketch_fans : Nat → Int64) (t_sketch_near : Nat → Int32) (p1 : Int32) (p2 : Int32) (post : Int32 → Int32 → Int64 → Int32 → Int32 → Int32 → Int32 → Int32 → Int64 → Int64 → Int32 → Int32 → Int64 → Int32 → Int32 → (Nat → Int64) → (Nat → Int32) → Prop) (h : F_X2_symmetriesOf t_allBits t_firstOrder t_isBeaten t_isStudy t_isTest t_least t_nodes t_order t_seen t_stillEdges t_symmetries t_sketch_colours t_sketch_darks t_sketch_nodes t_sketch_fans t_sketch_near p1 p2 post) : cI l D T yX2_symmetriesOf cX2_symmetriesOf 3 (some .int) 33 854 0 0 [.ref h_t, .int p1, .int p2] [(h_t, .inr (1, [.ref h_t_sketch, .int t_nodes, .int t_allBits, .int t_isTest, .int t_isBeaten, .int t_isStudy, .long t_order, .int t_least, .int t_symmetries, .long t_firstOrder, .long t_seen, .int t_stillEdges])), (h_t_sketch, .inr (6, [.ref h_t_sketch_near, .ref h_t_sketch_fans, .int t_sketch_nodes, .int t_sketch_darks, .long t_sketch_colours])), (h_t_sketch_fans, aJ T 6 t_sketch_fans), (h_t_sketch_near, aI T 6 t_sketch_near)] (fun r w1 => ∃ (t_allBits1 : Int32) (t_firstOrder1 : Int64) (t_isBeaten1 : Int32) (t_isStudy1 : Int32) (t_isTest1 : Int32) (t_least1 : Int32) (t_nodes1 : Int32) (t_order1 : Int64) (t_seen1 : Int64) (t_stillEdges1 : Int32) (t_symmetries1 : Int32) (t_sketch_colours1 : Int64) (t_sketch_darks1 : Int32) (t_sketch_nodes1 : Int32) (t_sketch_fans1 : Nat → Int64) (t_sketch_near1 : Nat → Int32), w1 = [(h_t, .inr (1, [.ref h_t_sketch, .int t_nodes1, .int t_allBits1, .int t_isTest1, .int t_isBeaten1, .int t_isStudy1, .long t_order1, .int t_least1, .int t_symmetries1, .long t_firstOrder1, .long t_seen1, .int t_stillEdges1])), (h_t_sketch, .inr (6, [.ref h_t_sketch_near, .ref h_t_sketch_fans, .int t_sketch_nodes1, .int t_sketch_darks1, .long t_sketch_colours1])), (h_t_sketch_fans, aJ T 6 t_sketch_fans1), (h_t_sketch_near, aI T 6 t_sketch_near1)] ∧ post r t_allBits1 t_firstOrder1 t_isBeaten1 t_isStudy1 t_isTest1 t_least1 t_nodes1 t_order1 t_seen1 t_stillEdges1 t_symmetries1 t_sketch_colours1 t_sketch_darks1 t_sketch_nodes1 t_sketch_fans1 t_sketch_near1) := by
  refine xI_of (ty := .int) (by decide +kernel) (Nat.le_of_ble_eq_true rfl) rfl ?_
  intro G X hret
  change G 0 0 0 [(0, .ref h_t), (1, .int p1), (2, .int p2)] [] [(h_t, .inr (1, [.ref h_t_sketch, .int t_nodes, .int t_allBits, .int t_isTest, .int t_isBeaten, .int t_isStudy, .long t_order, .int t_least, .int t_symmetries, .long t_firstOrder, .long t_seen, .int t_stillEdges])), (h_t_sketch, .inr (6, [.ref h_t_sketch_near, .ref h_t_sketch_fans, .int t_sketch_nodes, .int t_sketch_darks, .long t_sketch_colours])), (h_t_sketch_fans, aJ T 6 t_sketch_fans), (h_t_sketch_near, aI T 6 t_sketch_near)]
  unfold F_X2_symmetriesOf at h
  refine x_aload_n X dX2_symmetriesOf_0 0 rfl ?_
  refine x_iload_n X dX2_symmetriesOf_1 1 rfl ?_
  refine x_iload_n X dX2_symmetriesOf_2 2 rfl ?_
  refine x_callVI (av := [.int p1, .int p2]) (st := []) (wr := []) X (c_X2_leastOf l D T h_t h_t_sketch h_t_sketch_near h_t_sketch_fans t_allBits t_firstOrder t_isBeaten t_isStudy t_isTest t_least t_nodes t_order t_seen t_stillEdges t_symmetries t_sketch_colours t_sketch_darks t_sketch_nodes t_sketch_fans t_sketch_near p1 p2 _ h) yk_X2_leastOf tw_449 dX2_symmetriesOf_3 0 rfl rfl [0, 1, 2, 3] [] rfl rfl rfl rfl (by decide) rfl rfl (Nat.le_of_ble_eq_true rfl) (Nat.le_of_ble_eq_true rfl) (Nat.le_of_ble_eq_true rfl) (Nat.zero_le _) (Nat.zero_le _) (fun r3 w1 hw => ?_)
  obtain ⟨t_allBits_3, t_firstOrder_3, t_isBeaten_3, t_isStudy_3, t_isTest_3, t_least_3, t_nodes_3, t_order_3, t_seen_3, t_stillEdges_3, t_symmetries_3, t_sketch_colours_3, t_sketch_darks_3, t_sketch_nodes_3, t_sketch_fans_3, t_sketch_near_3, rfl, h⟩ := hw
  refine x_perm (ws2 := [(h_t, .inr (1, [.ref h_t_sketch, .int t_nodes_3, .int t_allBits_3, .int t_isTest_3, .int t_isBeaten_3, .int t_isStudy_3, .long t_order_3, .int t_least_3, .int t_symmetries_3, .long t_firstOrder_3, .long t_seen_3, .int t_stillEdges_3])), (h_t_sketch, .inr (6, [.ref h_t_sketch_near, .ref h_t_sketch_fans, .int t_sketch_nodes_3, .int t_sketch_darks_3, .long t_sketch_colours_3])), (h_t_sketch_fans, aJ T 6 t_sketch_fans_3), (h_t_sketch_near, aI T 6 t_sketch_near_3)]) X [0, 1, 2, 3] rfl rfl ?_
  refine x_pop X dX2_symmetriesOf_6 rfl ?_
  refine x_aload_n X dX2_symmetriesOf_7 0 rfl ?_
  refine x_get X inGX2 8 (by decide) rfl tw_243 dX2_symmetriesOf_8 rfl 0 rfl rfl ?_
  exact hret _ _ _ _ dX2_symmetriesOf_11 rfl ⟨t_allBits_3, t_firstOrder_3, t_isBeaten_3, t_isStudy_3, t_isTest_3, t_least_3, t_nodes_3, t_order_3, t_seen_3, t_stillEdges_3, t_symmetries_3, t_sketch_colours_3, t_sketch_darks_3, t_sketch_nodes_3, t_sketch_fans_3, t_sketch_near_3, rfl, h⟩
theorem dX2_partsLike_0 : decode cX2_partsLike 0 = .ok (.iconst 0, 1) := by decide +kernel
theorem dX2_partsLike_1 : decode cX2_partsLike 1 = .ok (.istore 5, 2) := by decide +kernel
theorem dX2_partsLike_3 : decode cX2_partsLike 3 = .ok (.iconst 0, 1) := by decide +kernel
theorem dX2_partsLike_4 : decode cX2_partsLike 4 = .ok (.istore 6, 2) := by decide +kernel
theorem dX2_partsLike_6 : decode cX2_partsLike 6 = .ok (.iload 6, 2) := by decide +kernel
theorem dX2_partsLike_8 : decode cX2_partsLike 8 = .ok (.iconst 1, 1) := by decide +kernel
theorem dX2_partsLike_9 : decode cX2_partsLike 9 = .ok (.iload_n 1, 1) := by decide +kernel
theorem dX2_partsLike_10 : decode cX2_partsLike 10 = .ok (.ishl, 1) := by decide +kernel
theorem dX2_partsLike_11 : decode cX2_partsLike 11 = .ok (.if_icmp .ge 67, 3) := by decide +kernel
theorem dX2_partsLike_14 : decode cX2_partsLike 14 = .ok (.iload 6, 2) := by decide +kernel
theorem dX2_partsLike_16 : decode cX2_partsLike 16 = .ok (.invokestatic 46, 3) := by decide +kernel
theorem dX2_partsLike_19 : decode cX2_partsLike 19 = .ok (.iload_n 3, 1) := by decide +kernel
theorem dX2_partsLike_20 : decode cX2_partsLike 20 = .ok (.if_icmp .ne 52, 3) := by decide +kernel
theorem dX2_partsLike_23 : decode cX2_partsLike 23 = .ok (.iload_n 1, 1) := by decide +kernel
theorem dX2_partsLike_24 : decode cX2_partsLike 24 = .ok (.iload_n 2, 1) := by decide +kernel
theorem dX2_partsLike_25 : decode cX2_partsLike 25 = .ok (.iload 6, 2) := by decide +kernel
theorem dX2_partsLike_27 : decode cX2_partsLike 27 = .ok (.invokestatic 52, 3) := by decide +kernel
theorem dX2_partsLike_30 : decode cX2_partsLike 30 = .ok (.istore 7, 2) := by decide +kernel
theorem dX2_partsLike_32 : decode cX2_partsLike 32 = .ok (.iload 7, 2) := by decide +kernel
theorem dX2_partsLike_34 : decode cX2_partsLike 34 = .ok (.invokestatic 46, 3) := by decide +kernel
theorem dX2_partsLike_37 : decode cX2_partsLike 37 = .ok (.iload 4, 2) := by decide +kernel
theorem dX2_partsLike_39 : decode cX2_partsLike 39 = .ok (.invokestatic 46, 3) := by decide +kernel
theorem dX2_partsLike_42 : decode cX2_partsLike 42 = .ok (.if_icmp .ne 7, 3) := by decide +kernel
theorem dX2_partsLike_45 : decode cX2_partsLike 45 = .ok (.iconst 1, 1) := by decide +kernel
theorem dX2_partsLike_46 : decode cX2_partsLike 46 = .ok (.goto 4, 3) := by decide +kernel
theorem dX2_partsLike_49 : decode cX2_partsLike 49 = .ok (.iconst 0, 1) := by decide +kernel
theorem dX2_partsLike_50 : decode cX2_partsLike 50 = .ok (.istore 8, 2) := by decide +kernel
theorem dX2_partsLike_52 : decode cX2_partsLike 52 = .ok (.iload 8, 2) := by decide +kernel
theorem dX2_partsLike_54 : decode cX2_partsLike 54 = .ok (.ifCond .eq 18, 3) := by decide +kernel
theorem dX2_partsLike_57 : decode cX2_partsLike 57 = .ok (.aload_n 0, 1) := by decide +kernel
theorem dX2_partsLike_58 : decode cX2_partsLike 58 = .ok (.iload_n 3, 1) := by decide +kernel
theorem dX2_partsLike_59 : decode cX2_partsLike 59 = .ok (.iload 7, 2) := by decide +kernel
theorem dX2_partsLike_61 : decode cX2_partsLike 61 = .ok (.invokevirtual 39, 3) := by decide +kernel
theorem dX2_partsLike_64 : decode cX2_partsLike 64 = .ok (.iload 4, 2) := by decide +kernel
theorem dX2_partsLike_66 : decode cX2_partsLike 66 = .ok (.if_icmp .ne 6, 3) := by decide +kernel
theorem dX2_partsLike_69 : decode cX2_partsLike 69 = .ok (.iinc 5 1, 3) := by decide +kernel
theorem dX2_partsLike_72 : decode cX2_partsLike 72 = .ok (.iinc 6 1, 3) := by decide +kernel
theorem dX2_partsLike_75 : decode cX2_partsLike 75 = .ok (.goto (-69), 3) := by decide +kernel
theorem dX2_partsLike_78 : decode cX2_partsLike 78 = .ok (.iload 5, 2) := by decide +kernel
theorem dX2_partsLike_80 : decode cX2_partsLike 80 = .ok (.ireturn, 1) := by decide +kernel
set_option maxHeartbeats 4000000 in
set_option maxRecDepth 100000 in
theorem c_X2_partsLike (l : Launch) (D : eD) (T : Nat → ClassId) (h_t h_t_sketch h_t_sketch_near h_t_sketch_fans : Nat) (t_allBits : Int32) (t_firstOrder : Int64) (t_isBeaten : Int32) (t_isStudy : Int32) (t_isTest : Int32) (t_least : Int32) (t_nodes : Int32) (t_order : Int64) (t_seen : Int64) (t_stillEdges : Int32) (t_symmetries : Int32) (t_sketch_colours : Int64) (t_sketch_darks : Int32) (t_sketch_nodes : Int32) (t_sketch_fans : Nat → Int64) (t_sketch_near : Nat → Int32) (p1 : Int32) (p2 : Int32) (p3 : Int32) (p4 : Int32) (post : Int32 → Int32 → Int64 → Int32 → Int32 → Int32 → Int32 → Int32 → Int64 → Int64 → Int32 → Int32 → Int64 → Int32 → Int32 → (Nat → Int64) → (Nat → Int32) → Prop) (h : F_X2_partsLike t_allBits t_firstOrder t_isBeaten t_isStudy t_isTest t_least t_nodes t_order t_seen t_stillEdges t_symmetries t_sketch_colours t_sketch_darks t_sketch_nodes t_sketch_fans t_sketch_near p1 p2 p3 p4 post) : cI l D T yX2_partsLike cX2_partsLike 9 (some .int) 33 854 0 0 [.ref h_t, .int p1, .int p2, .int p3, .int p4] [(h_t, .inr (1, [.ref h_t_sketch, .int t_nodes, .int t_allBits, .int t_isTest, .int t_isBeaten, .int t_isStudy, .long t_order, .int t_least, .int t_symmetries, .long t_firstOrder, .long t_seen, .int t_stillEdges])), (h_t_sketch, .inr (6, [.ref h_t_sketch_near, .ref h_t_sketch_fans, .int t_sketch_nodes, .int t_sketch_darks, .long t_sketch_colours])), (h_t_sketch_fans, aJ T 6 t_sketch_fans), (h_t_sketch_near, aI T 6 t_sketch_near)] (fun r w1 => ∃ (t_allBits1 : Int32) (t_firstOrder1 : Int64) (t_isBeaten1 : Int32) (t_isStudy1 : Int32) (t_isTest1 : Int32) (t_least1 : Int32) (t_nodes1 : Int32) (t_order1 : Int64) (t_seen1 : Int64) (t_stillEdges1 : Int32) (t_symmetries1 : Int32) (t_sketch_colours1 : Int64) (t_sketch_darks1 : Int32) (t_sketch_nodes1 : Int32) (t_sketch_fans1 : Nat → Int64) (t_sketch_near1 : Nat → Int32), w1 = [(h_t, .inr (1, [.ref h_t_sketch, .int t_nodes1, .int t_allBits1, .int t_isTest1, .int t_isBeaten1, .int t_isStudy1, .long t_order1, .int t_least1, .int t_symmetries1, .long t_firstOrder1, .long t_seen1, .int t_stillEdges1])), (h_t_sketch, .inr (6, [.ref h_t_sketch_near, .ref h_t_sketch_fans, .int t_sketch_nodes1, .int t_sketch_darks1, .long t_sketch_colours1])), (h_t_sketch_fans, aJ T 6 t_sketch_fans1), (h_t_sketch_near, aI T 6 t_sketch_near1)] ∧ post r t_allBits1 t_firstOrder1 t_isBeaten1 t_isStudy1 t_isTest1 t_least1 t_nodes1 t_order1 t_seen1 t_stillEdges1 t_symmetries1 t_sketch_colours1 t_sketch_darks1 t_sketch_nodes1 t_sketch_fans1 t_sketch_near1) := by
  refine xI_of (ty := .int) (by decide +kernel) (Nat.le_of_ble_eq_true rfl) rfl ?_
  intro G X hret
  change G 0 0 0 [(0, .ref h_t), (1, .int p1), (2, .int p2), (3, .int p3), (4, .int p4)] [] [(h_t, .inr (1, [.ref h_t_sketch, .int t_nodes, .int t_allBits, .int t_isTest, .int t_isBeaten, .int t_isStudy, .long t_order, .int t_least, .int t_symmetries, .long t_firstOrder, .long t_seen, .int t_stillEdges])), (h_t_sketch, .inr (6, [.ref h_t_sketch_near, .ref h_t_sketch_fans, .int t_sketch_nodes, .int t_sketch_darks, .long t_sketch_colours])), (h_t_sketch_fans, aJ T 6 t_sketch_fans), (h_t_sketch_near, aI T 6 t_sketch_near)]
  unfold F_X2_partsLike at h
  have k6 : ∀ (n6 : Nat) (x1 : Int32) (x2 : Int32) (x3 : Int32) (x4 : Int32) (x5 : Int32) (x6 : Int32) (t_allBits : Int32) (t_firstOrder : Int64) (t_isBeaten : Int32) (t_isStudy : Int32) (t_isTest : Int32) (t_least : Int32) (t_nodes : Int32) (t_order : Int64) (t_seen : Int64) (t_stillEdges : Int32) (t_symmetries : Int32) (t_sketch_colours : Int64) (t_sketch_darks : Int32) (t_sketch_nodes : Int32) (t_sketch_fans : Nat → Int64) (t_sketch_near : Nat → Int32), F_X2_partsLike_6 post n6 x1 x2 x3 x4 x5 x6 t_allBits t_firstOrder t_isBeaten t_isStudy t_isTest t_least t_nodes t_order t_seen t_stillEdges t_symmetries t_sketch_colours t_sketch_darks t_sketch_nodes t_sketch_fans t_sketch_near → G 0 0 6 [(0, .ref h_t), (1, .int x1), (2, .int x2), (3, .int x3), (4, .int x4), (5, .int x5), (6, .int x6)] [] [(h_t, .inr (1, [.ref h_t_sketch, .int t_nodes, .int t_allBits, .int t_isTest, .int t_isBeaten, .int t_isStudy, .long t_order, .int t_least, .int t_symmetries, .long t_firstOrder, .long t_seen, .int t_stillEdges])), (h_t_sketch, .inr (6, [.ref h_t_sketch_near, .ref h_t_sketch_fans, .int t_sketch_nodes, .int t_sketch_darks, .long t_sketch_colours])), (h_t_sketch_fans, aJ T 6 t_sketch_fans), (h_t_sketch_near, aI T 6 t_sketch_near)] := by
    intro n6
    induction n6 with
    | zero => intro x1 x2 x3 x4 x5 x6 t_allBits t_firstOrder t_isBeaten t_isStudy t_isTest t_least t_nodes t_order t_seen t_stillEdges t_symmetries t_sketch_colours t_sketch_darks t_sketch_nodes t_sketch_fans t_sketch_near h; exact h.elim
    | succ n6 ih6 =>
      intro x1 x2 x3 x4 x5 x6 t_allBits t_firstOrder t_isBeaten t_isStudy t_isTest t_least t_nodes t_order t_seen t_stillEdges t_symmetries t_sketch_colours t_sketch_darks t_sketch_nodes t_sketch_fans t_sketch_near h
      rw [F_X2_partsLike_6] at h
      have k72 : ∀ (x1 : Int32) (x2 : Int32) (x3 : Int32) (x4 : Int32) (x5 : Int32) (x6 : Int32) (t_allBits : Int32) (t_firstOrder : Int64) (t_isBeaten : Int32) (t_isStudy : Int32) (t_isTest : Int32) (t_least : Int32) (t_nodes : Int32) (t_order : Int64) (t_seen : Int64) (t_stillEdges : Int32) (t_symmetries : Int32) (t_sketch_colours : Int64) (t_sketch_darks : Int32) (t_sketch_nodes : Int32) (t_sketch_fans : Nat → Int64) (t_sketch_near : Nat → Int32), F_X2_partsLike_72 post (F_X2_partsLike_6 post n6) x1 x2 x3 x4 x5 x6 t_allBits t_firstOrder t_isBeaten t_isStudy t_isTest t_least t_nodes t_order t_seen t_stillEdges t_symmetries t_sketch_colours t_sketch_darks t_sketch_nodes t_sketch_fans t_sketch_near → G 0 0 72 [(0, .ref h_t), (1, .int x1), (2, .int x2), (3, .int x3), (4, .int x4), (5, .int x5), (6, .int x6)] [] [(h_t, .inr (1, [.ref h_t_sketch, .int t_nodes, .int t_allBits, .int t_isTest, .int t_isBeaten, .int t_isStudy, .long t_order, .int t_least, .int t_symmetries, .long t_firstOrder, .long t_seen, .int t_stillEdges])), (h_t_sketch, .inr (6, [.ref h_t_sketch_near, .ref h_t_sketch_fans, .int t_sketch_nodes, .int t_sketch_darks, .long t_sketch_colours])), (h_t_sketch_fans, aJ T 6 t_sketch_fans), (h_t_sketch_near, aI T 6 t_sketch_near)] := by
        intro x1 x2 x3 x4 x5 x6 t_allBits t_firstOrder t_isBeaten t_isStudy t_isTest t_least t_nodes t_order t_seen t_stillEdges t_symmetries t_sketch_colours t_sketch_darks t_sketch_nodes t_sketch_fans t_sketch_near h
        unfold F_X2_partsLike_72 at h
        refine x_iinc (v := (x6 + 1)) (lv' := [(6, .int (x6 + 1)), (0, .ref h_t), (1, .int x1), (2, .int x2), (3, .int x3), (4, .int x4), (5, .int x5)]) X dX2_partsLike_72 6 rfl rfl (by decide) rfl ?_
        refine x_goto (tgt := 6) X dX2_partsLike_75 (by decide) ?_
        exact x_sub X [1, 2, 3, 4, 5, 6, 0] rfl (ih6 x1 x2 x3 x4 x5 (x6 + 1) t_allBits t_firstOrder t_isBeaten t_isStudy t_isTest t_least t_nodes t_order t_seen t_stillEdges t_symmetries t_sketch_colours t_sketch_darks t_sketch_nodes t_sketch_fans t_sketch_near h)
      have k50 : ∀ (x1 : Int32) (x2 : Int32) (x3 : Int32) (x4 : Int32) (x5 : Int32) (x6 : Int32) (x7 : Int32) (s0 : Int32) (t_allBits : Int32) (t_firstOrder : Int64) (t_isBeaten : Int32) (t_isStudy : Int32) (t_isTest : Int32) (t_least : Int32) (t_nodes : Int32) (t_order : Int64) (t_seen : Int64) (t_stillEdges : Int32) (t_symmetries : Int32) (t_sketch_colours : Int64) (t_sketch_darks : Int32) (t_sketch_nodes : Int32) (t_sketch_fans : Nat → Int64) (t_sketch_near : Nat → Int32), F_X2_partsLike_50 post (fun x1 x2 x3 x4 x5 x6 t_allBits t_firstOrder t_isBeaten t_isStudy t_isTest t_least t_nodes t_order t_seen t_stillEdges t_symmetries t_sketch_colours t_sketch_darks t_sketch_nodes t_sketch_fans t_sketch_near => F_X2_partsLike_72 post (F_X2_partsLike_6 post n6) x1 x2 x3 x4 x5 x6 t_allBits t_firstOrder t_isBeaten t_isStudy t_isTest t_least t_nodes t_order t_seen t_stillEdges t_symmetries t_sketch_colours t_sketch_darks t_sketch_nodes t_sketch_fans t_sketch_near) x1 x2 x3 x4 x5 x6 x7 s0 t_allBits t_firstOrder t_isBeaten t_isStudy t_isTest t_least t_nodes t_order t_seen t_stillEdges t_symmetries t_sketch_colours t_sketch_darks t_sketch_nodes t_sketch_fans t_sketch_near → G 0 0 50 [(0, .ref h_t), (1, .int x1), (2, .int x2), (3, .int x3), (4, .int x4), (5, .int x5), (6, .int x6), (7, .int x7)] [.int s0] [(h_t, .inr (1, [.ref h_t_sketch, .int t_nodes, .int t_allBits, .int t_isTest, .int t_isBeaten, .int t_isStudy, .long t_order, .int t_least, .int t_symmetries, .long t_firstOrder, .long t_seen, .int t_stillEdges])), (h_t_sketch, .inr (6, [.ref h_t_sketch_near, .ref h_t_sketch_fans, .int t_sketch_nodes, .int t_sketch_darks, .long t_sketch_colours])), (h_t_sketch_fans, aJ T 6 t_sketch_fans), (h_t_sketch_near, aI T 6 t_sketch_near)] := by
        intro x1 x2 x3 x4 x5 x6 x7 s0 t_allBits t_firstOrder t_isBeaten t_isStudy t_isTest t_least t_nodes t_order t_seen t_stillEdges t_symmetries t_sketch_colours t_sketch_darks t_sketch_nodes t_sketch_fans t_sketch_near h
        unfold F_X2_partsLike_50 at h
        refine x_istore (lv' := [(8, .int s0), (0, .ref h_t), (1, .int x1), (2, .int x2), (3, .int x3), (4, .int x4), (5, .int x5), (6, .int x6), (7, .int x7)]) X dX2_partsLike_50 (by decide) rfl ?_
        refine x_iload X dX2_partsLike_52 0 rfl ?_
        refine x_if_eq (tgt := 72) X dX2_partsLike_54 (by decide) (fun hc => ?_) (fun hc => ?_)
        · have h := h.1 hc
          exact x_sub X [1, 2, 3, 4, 5, 6, 7] rfl (k72 x1 x2 x3 x4 x5 x6 t_allBits t_firstOrder t_isBeaten t_isStudy t_isTest t_least t_nodes t_order t_seen t_stillEdges t_symmetries t_sketch_colours t_sketch_darks t_sketch_nodes t_sketch_fans t_sketch_near h)
        · have h := h.2 hc
          refine x_aload_n X dX2_partsLike_57 1 rfl ?_
          refine x_iload_n X dX2_partsLike_58 4 rfl ?_
          refine x_iload X dX2_partsLike_59 8 rfl ?_
          refine x_callVI (av := [.int x3, .int x7]) (st := []) (wr := []) X (c_X2_leastOf l D T h_t h_t_sketch h_t_sketch_near h_t_sketch_fans t_allBits t_firstOrder t_isBeaten t_isStudy t_isTest t_least t_nodes t_order t_seen t_stillEdges t_symmetries t_sketch_colours t_sketch_darks t_sketch_nodes t_sketch_fans t_sketch_near x3 x7 _ h) yk_X2_leastOf tw_449 dX2_partsLike_61 0 rfl rfl [0, 1, 2, 3] [] rfl rfl rfl rfl (by decide) rfl rfl (Nat.le_of_ble_eq_true rfl) (Nat.le_of_ble_eq_true rfl) (Nat.le_of_ble_eq_true rfl) (Nat.zero_le _) (Nat.zero_le _) (fun r61 w1 hw => ?_)
          obtain ⟨t_allBits_61, t_firstOrder_61, t_isBeaten_61, t_isStudy_61, t_isTest_61, t_least_61, t_nodes_61, t_order_61, t_seen_61, t_stillEdges_61, t_symmetries_61, t_sketch_colours_61, t_sketch_darks_61, t_sketch_nodes_61, t_sketch_fans_61, t_sketch_near_61, rfl, h⟩ := hw
          refine x_perm (ws2 := [(h_t, .inr (1, [.ref h_t_sketch, .int t_nodes_61, .int t_allBits_61, .int t_isTest_61, .int t_isBeaten_61, .int t_isStudy_61, .long t_order_61, .int t_least_61, .int t_symmetries_61, .long t_firstOrder_61, .long t_seen_61, .int t_stillEdges_61])), (h_t_sketch, .inr (6, [.ref h_t_sketch_near, .ref h_t_sketch_fans, .int t_sketch_nodes_61, .int t_sketch_darks_61, .long t_sketch_colours_61])), (h_t_sketch_fans, aJ T 6 t_sketch_fans_61), (h_t_sketch_near, aI T 6 t_sketch_near_61)]) X [0, 1, 2, 3] rfl rfl ?_
          refine x_iload X dX2_partsLike_64 5 rfl ?_
          refine x_icmp_ne (tgt := 72) X dX2_partsLike_66 (by decide) (fun hc => ?_) (fun hc => ?_)
          · have h := h.1 hc
            exact x_sub X [1, 2, 3, 4, 5, 6, 7] rfl (k72 x1 x2 x3 x4 x5 x6 t_allBits_61 t_firstOrder_61 t_isBeaten_61 t_isStudy_61 t_isTest_61 t_least_61 t_nodes_61 t_order_61 t_seen_61 t_stillEdges_61 t_symmetries_61 t_sketch_colours_61 t_sketch_darks_61 t_sketch_nodes_61 t_sketch_fans_61 t_sketch_near_61 h)
          · have h := h.2 hc
            refine x_iinc (v := (x5 + 1)) (lv' := [(5, .int (x5 + 1)), (8, .int s0), (0, .ref h_t), (1, .int x1), (2, .int x2), (3, .int x3), (4, .int x4), (6, .int x6), (7, .int x7)]) X dX2_partsLike_69 6 rfl rfl (by decide) rfl ?_
            exact x_sub X [2, 3, 4, 5, 6, 0, 7] rfl (k72 x1 x2 x3 x4 (x5 + 1) x6 t_allBits_61 t_firstOrder_61 t_isBeaten_61 t_isStudy_61 t_isTest_61 t_least_61 t_nodes_61 t_order_61 t_seen_61 t_stillEdges_61 t_symmetries_61 t_sketch_colours_61 t_sketch_darks_61 t_sketch_nodes_61 t_sketch_fans_61 t_sketch_near_61 h)
      refine x_iload X dX2_partsLike_6 6 rfl ?_
      refine x_iconst (v := 1) X dX2_partsLike_8 (by decide) ?_
      refine x_iload_n X dX2_partsLike_9 1 rfl ?_
      refine x_ishl X dX2_partsLike_10 ?_
      refine x_icmp_ge (tgt := 78) X dX2_partsLike_11 (by decide) (fun hc => ?_) (fun hc => ?_)
      · have h := h.1 hc
        refine x_iload X dX2_partsLike_78 5 rfl ?_
        exact hret _ _ _ _ dX2_partsLike_80 rfl ⟨t_allBits, t_firstOrder, t_isBeaten, t_isStudy, t_isTest, t_least, t_nodes, t_order, t_seen, t_stillEdges, t_symmetries, t_sketch_colours, t_sketch_darks, t_sketch_nodes, t_sketch_fans, t_sketch_near, rfl, h⟩
      · have h := h.2 hc
        refine x_iload X dX2_partsLike_14 6 rfl ?_
        refine x_callSI (av := [.int x6]) (st := []) (wr := [(h_t, .inr (1, [.ref h_t_sketch, .int t_nodes, .int t_allBits, .int t_isTest, .int t_isBeaten, .int t_isStudy, .long t_order, .int t_least, .int t_symmetries, .long t_firstOrder, .long t_seen, .int t_stillEdges])), (h_t_sketch, .inr (6, [.ref h_t_sketch_near, .ref h_t_sketch_fans, .int t_sketch_nodes, .int t_sketch_darks, .long t_sketch_colours])), (h_t_sketch_fans, aJ T 6 t_sketch_fans), (h_t_sketch_near, aI T 6 t_sketch_near)]) X (c_J6_bitCount_0f7a4 l D T  x6 _ h) yk_J6_bitCount_0f7a4 tw_440 dX2_partsLike_16 [] [0, 1, 2, 3] rfl rfl rfl rfl (by decide) rfl rfl (Nat.le_of_ble_eq_true rfl) (Nat.le_of_ble_eq_true rfl) (Nat.le_of_ble_eq_true rfl) (Nat.zero_le _) (Nat.zero_le _) (fun r16 w1 hw => ?_)
        obtain ⟨rfl, h⟩ := hw
        refine x_perm (ws2 := [(h_t, .inr (1, [.ref h_t_sketch, .int t_nodes, .int t_allBits, .int t_isTest, .int t_isBeaten, .int t_isStudy, .long t_order, .int t_least, .int t_symmetries, .long t_firstOrder, .long t_seen, .int t_stillEdges])), (h_t_sketch, .inr (6, [.ref h_t_sketch_near, .ref h_t_sketch_fans, .int t_sketch_nodes, .int t_sketch_darks, .long t_sketch_colours])), (h_t_sketch_fans, aJ T 6 t_sketch_fans), (h_t_sketch_near, aI T 6 t_sketch_near)]) X [0, 1, 2, 3] rfl rfl ?_
        refine x_iload_n X dX2_partsLike_19 3 rfl ?_
        refine x_icmp_ne (tgt := 72) X dX2_partsLike_20 (by decide) (fun hc => ?_) (fun hc => ?_)
        · have h := h.1 hc
          exact x_sub X [0, 1, 2, 3, 4, 5, 6] rfl (k72 x1 x2 x3 x4 x5 x6 t_allBits t_firstOrder t_isBeaten t_isStudy t_isTest t_least t_nodes t_order t_seen t_stillEdges t_symmetries t_sketch_colours t_sketch_darks t_sketch_nodes t_sketch_fans t_sketch_near h)
        · have h := h.2 hc
          refine x_iload_n X dX2_partsLike_23 1 rfl ?_
          refine x_iload_n X dX2_partsLike_24 2 rfl ?_
          refine x_iload X dX2_partsLike_25 6 rfl ?_
          refine x_callSI (av := [.int x1, .int x2, .int x6]) (st := []) (wr := [(h_t, .inr (1, [.ref h_t_sketch, .int t_nodes, .int t_allBits, .int t_isTest, .int t_isBeaten, .int t_isStudy, .long t_order, .int t_least, .int t_symmetries, .long t_firstOrder, .long t_seen, .int t_stillEdges])), (h_t_sketch, .inr (6, [.ref h_t_sketch_near, .ref h_t_sketch_fans, .int t_sketch_nodes, .int t_sketch_darks, .long t_sketch_colours])), (h_t_sketch_fans, aJ T 6 t_sketch_fans), (h_t_sketch_near, aI T 6 t_sketch_near)]) X (c_X0_part l D T  x1 x2 x6 _ h) yk_X0_part tw_441 dX2_partsLike_27 [] [0, 1, 2, 3] rfl rfl rfl rfl (by decide) rfl rfl (Nat.le_of_ble_eq_true rfl) (Nat.le_of_ble_eq_true rfl) (Nat.le_of_ble_eq_true rfl) (Nat.zero_le _) (Nat.zero_le _) (fun r27 w1 hw => ?_)
          obtain ⟨rfl, h⟩ := hw
          refine x_perm (ws2 := [(h_t, .inr (1, [.ref h_t_sketch, .int t_nodes, .int t_allBits, .int t_isTest, .int t_isBeaten, .int t_isStudy, .long t_order, .int t_least, .int t_symmetries, .long t_firstOrder, .long t_seen, .int t_stillEdges])), (h_t_sketch, .inr (6, [.ref h_t_sketch_near, .ref h_t_sketch_fans, .int t_sketch_nodes, .int t_sketch_darks, .long t_sketch_colours])), (h_t_sketch_fans, aJ T 6 t_sketch_fans), (h_t_sketch_near, aI T 6 t_sketch_near)]) X [0, 1, 2, 3] rfl rfl ?_
          refine x_istore (lv' := [(7, .int r27), (0, .ref h_t), (1, .int x1), (2, .int x2), (3, .int x3), (4, .int x4), (5, .int x5), (6, .int x6)]) X dX2_partsLike_30 (by decide) rfl ?_
          refine x_iload X dX2_partsLike_32 0 rfl ?_
          refine x_callSI (av := [.int r27]) (st := []) (wr := [(h_t, .inr (1, [.ref h_t_sketch, .int t_nodes, .int t_allBits, .int t_isTest, .int t_isBeaten, .int t_isStudy, .long t_order, .int t_least, .int t_symmetries, .long t_firstOrder, .long t_seen, .int t_stillEdges])), (h_t_sketch, .inr (6, [.ref h_t_sketch_near, .ref h_t_sketch_fans, .int t_sketch_nodes, .int t_sketch_darks, .long t_sketch_colours])), (h_t_sketch_fans, aJ T 6 t_sketch_fans), (h_t_sketch_near, aI T 6 t_sketch_near)]) X (c_J6_bitCount_0f7a4 l D T  r27 _ h) yk_J6_bitCount_0f7a4 tw_440 dX2_partsLike_34 [] [0, 1, 2, 3] rfl rfl rfl rfl (by decide) rfl rfl (Nat.le_of_ble_eq_true rfl) (Nat.le_of_ble_eq_true rfl) (Nat.le_of_ble_eq_true rfl) (Nat.zero_le _) (Nat.zero_le _) (fun r34 w1 hw => ?_)
          obtain ⟨rfl, h⟩ := hw
          refine x_perm (ws2 := [(h_t, .inr (1, [.ref h_t_sketch, .int t_nodes, .int t_allBits, .int t_isTest, .int t_isBeaten, .int t_isStudy, .long t_order, .int t_least, .int t_symmetries, .long t_firstOrder, .long t_seen, .int t_stillEdges])), (h_t_sketch, .inr (6, [.ref h_t_sketch_near, .ref h_t_sketch_fans, .int t_sketch_nodes, .int t_sketch_darks, .long t_sketch_colours])), (h_t_sketch_fans, aJ T 6 t_sketch_fans), (h_t_sketch_near, aI T 6 t_sketch_near)]) X [0, 1, 2, 3] rfl rfl ?_
          refine x_iload X dX2_partsLike_37 5 rfl ?_
          refine x_callSI (av := [.int x4]) (st := [.int r34]) (wr := [(h_t, .inr (1, [.ref h_t_sketch, .int t_nodes, .int t_allBits, .int t_isTest, .int t_isBeaten, .int t_isStudy, .long t_order, .int t_least, .int t_symmetries, .long t_firstOrder, .long t_seen, .int t_stillEdges])), (h_t_sketch, .inr (6, [.ref h_t_sketch_near, .ref h_t_sketch_fans, .int t_sketch_nodes, .int t_sketch_darks, .long t_sketch_colours])), (h_t_sketch_fans, aJ T 6 t_sketch_fans), (h_t_sketch_near, aI T 6 t_sketch_near)]) X (c_J6_bitCount_0f7a4 l D T  x4 _ h) yk_J6_bitCount_0f7a4 tw_440 dX2_partsLike_39 [] [0, 1, 2, 3] rfl rfl rfl rfl (by decide) rfl rfl (Nat.le_of_ble_eq_true rfl) (Nat.le_of_ble_eq_true rfl) (Nat.le_of_ble_eq_true rfl) (Nat.zero_le _) (Nat.zero_le _) (fun r39 w1 hw => ?_)
          obtain ⟨rfl, h⟩ := hw
          refine x_perm (ws2 := [(h_t, .inr (1, [.ref h_t_sketch, .int t_nodes, .int t_allBits, .int t_isTest, .int t_isBeaten, .int t_isStudy, .long t_order, .int t_least, .int t_symmetries, .long t_firstOrder, .long t_seen, .int t_stillEdges])), (h_t_sketch, .inr (6, [.ref h_t_sketch_near, .ref h_t_sketch_fans, .int t_sketch_nodes, .int t_sketch_darks, .long t_sketch_colours])), (h_t_sketch_fans, aJ T 6 t_sketch_fans), (h_t_sketch_near, aI T 6 t_sketch_near)]) X [0, 1, 2, 3] rfl rfl ?_
          refine x_icmp_ne (tgt := 49) X dX2_partsLike_42 (by decide) (fun hc => ?_) (fun hc => ?_)
          · have h := h.1 hc
            refine x_iconst (v := 0) X dX2_partsLike_49 (by decide) ?_
            exact x_sub X [1, 2, 3, 4, 5, 6, 7, 0] rfl (k50 x1 x2 x3 x4 x5 x6 r27 (0 : Int32) t_allBits t_firstOrder t_isBeaten t_isStudy t_isTest t_least t_nodes t_order t_seen t_stillEdges t_symmetries t_sketch_colours t_sketch_darks t_sketch_nodes t_sketch_fans t_sketch_near h)
          · have h := h.2 hc
            refine x_iconst (v := 1) X dX2_partsLike_45 (by decide) ?_
            refine x_goto (tgt := 50) X dX2_partsLike_46 (by decide) ?_
            exact x_sub X [1, 2, 3, 4, 5, 6, 7, 0] rfl (k50 x1 x2 x3 x4 x5 x6 r27 (1 : Int32) t_allBits t_firstOrder t_isBeaten t_isStudy t_isTest t_least t_nodes t_order t_seen t_stillEdges t_symmetries t_sketch_colours t_sketch_darks t_sketch_nodes t_sketch_fans t_sketch_near h)
  refine x_iconst (v := 0) X dX2_partsLike_0 (by decide) ?_
  refine x_istore (lv' := [(5, .int (0 : Int32)), (0, .ref h_t), (1, .int p1), (2, .int p2), (3, .int p3), (4, .int p4)]) X dX2_partsLike_1 (by decide) rfl ?_
  refine x_iconst (v := 0) X dX2_partsLike_3 (by decide) ?_
  refine x_istore (lv' := [(6, .int (0 : Int32)), (5, .int (0 : Int32)), (0, .ref h_t), (1, .int p1), (2, .int p2), (3, .int p3), (4, .int p4)]) X dX2_partsLike_4 (by decide) rfl ?_
  obtain ⟨n6, h⟩ := h
  exact x_sub X [2, 3, 4, 5, 6, 1, 0] rfl (k6 n6 p1 p2 p3 p4 (0 : Int32) (0 : Int32) t_allBits t_firstOrder t_isBeaten t_isStudy t_isTest t_least t_nodes t_order t_seen t_stillEdges t_symmetries t_sketch_colours t_sketch_darks t_sketch_nodes t_sketch_fans t_sketch_near h)
theorem dX2_seenAt_0 : decode cX2_seenAt 0 = .ok (.aload_n 0, 1) := by decide +kernel
theorem dX2_seenAt_1 : decode cX2_seenAt 1 = .ok (.getfield 86, 3) := by decide +kernel
theorem dX2_seenAt_4 : decode cX2_seenAt 4 = .ok (.bipush 6, 2) := by decide +kernel
theorem dX2_seenAt_6 : decode cX2_seenAt 6 = .ok (.iload_n 1, 1) := by decide +kernel
theorem dX2_seenAt_7 : decode cX2_seenAt 7 = .ok (.imul, 1) := by decide +kernel
theorem dX2_seenAt_8 : decode cX2_seenAt 8 = .ok (.lshr, 1) := by decide +kernel
theorem dX2_seenAt_9 : decode cX2_seenAt 9 = .ok (.l2i, 1) := by decide +kernel
theorem dX2_seenAt_10 : decode cX2_seenAt 10 = .ok (.bipush 63, 2) := by decide +kernel
theorem dX2_seenAt_12 : decode cX2_seenAt 12 = .ok (.iand, 1) := by decide +kernel
theorem dX2_seenAt_13 : decode cX2_seenAt 13 = .ok (.ireturn, 1) := by decide +kernel
set_option maxHeartbeats 4000000 in
set_option maxRecDepth 100000 in
theorem c_X2_seenAt (l : Launch) (D : eD) (T : Nat → ClassId) (h_t h_t_sketch : Nat) (t_allBits : Int32) (t_firstOrder : Int64) (t_isBeaten : Int32) (t_isStudy : Int32) (t_isTest : Int32) (t_least : Int32) (t_nodes : Int32) (t_order : Int64) (t_seen : Int64) (t_stillEdges : Int32) (t_symmetries : Int32) (p1 : Int32) (post : Int32 → Prop) (h : F_X2_seenAt t_seen p1 post) : cI l D T yX2_seenAt cX2_seenAt 2 (some .int) 0 0 0 0 [.ref h_t, .int p1] [(h_t, .inr (1, [.ref h_t_sketch, .int t_nodes, .int t_allBits, .int t_isTest, .int t_isBeaten, .int t_isStudy, .long t_order, .int t_least, .int t_symmetries, .long t_firstOrder, .long t_seen, .int t_stillEdges]))] (fun r w1 => w1 = [(h_t, .inr (1, [.ref h_t_sketch, .int t_nodes, .int t_allBits, .int t_isTest, .int t_isBeaten, .int t_isStudy, .long t_order, .int t_least, .int t_symmetries, .long t_firstOrder, .long t_seen, .int t_stillEdges]))] ∧ post r ) := by
  refine xI_of (ty := .int) (by decide +kernel) (Nat.le_of_ble_eq_true rfl) rfl ?_
  intro G X hret
  change G 0 0 0 [(0, .ref h_t), (1, .int p1)] [] [(h_t, .inr (1, [.ref h_t_sketch, .int t_nodes, .int t_allBits, .int t_isTest, .int t_isBeaten, .int t_isStudy, .long t_order, .int t_least, .int t_symmetries, .long t_firstOrder, .long t_seen, .int t_stillEdges]))]
  unfold F_X2_seenAt at h
  refine x_aload_n X dX2_seenAt_0 0 rfl ?_
  refine x_get X inGX2 10 (by decide) rfl tw_247 dX2_seenAt_1 rfl 0 rfl rfl ?_
  refine x_bipush (v := 6) X dX2_seenAt_4 (by decide) ?_
  refine x_iload_n X dX2_seenAt_6 1 rfl ?_
  refine x_imul X dX2_seenAt_7 ?_
  refine x_lshr X dX2_seenAt_8 ?_
  refine x_l2i X dX2_seenAt_9 ?_
  refine x_bipush (v := 63) X dX2_seenAt_10 (by decide) ?_
  refine x_iand X dX2_seenAt_12 ?_
  exact hret _ _ _ _ dX2_seenAt_13 rfl ⟨rfl, h⟩
theorem dX2_leastSeenWith_0 : decode cX2_leastSeenWith 0 = .ok (.iconst 0, 1) := by decide +kernel
theorem dX2_leastSeenWith_1 : decode cX2_leastSeenWith 1 = .ok (.istore_n 2, 1) := by decide +kernel
theorem dX2_leastSeenWith_2 : decode cX2_leastSeenWith 2 = .ok (.iload_n 2, 1) := by decide +kernel
theorem dX2_leastSeenWith_3 : decode cX2_leastSeenWith 3 = .ok (.aload_n 0, 1) := by decide +kernel
theorem dX2_leastSeenWith_4 : decode cX2_leastSeenWith 4 = .ok (.getfield 61, 3) := by decide +kernel
theorem dX2_leastSeenWith_7 : decode cX2_leastSeenWith 7 = .ok (.if_icmp .ge 31, 3) := by decide +kernel
theorem dX2_leastSeenWith_10 : decode cX2_leastSeenWith 10 = .ok (.aload_n 0, 1) := by decide +kernel
theorem dX2_leastSeenWith_11 : decode cX2_leastSeenWith 11 = .ok (.iload_n 2, 1) := by decide +kernel
theorem dX2_leastSeenWith_12 : decode cX2_leastSeenWith 12 = .ok (.invokevirtual 67, 3) := by decide +kernel
theorem dX2_leastSeenWith_15 : decode cX2_leastSeenWith 15 = .ok (.iload_n 1, 1) := by decide +kernel
theorem dX2_leastSeenWith_16 : decode cX2_leastSeenWith 16 = .ok (.ishr, 1) := by decide +kernel
theorem dX2_leastSeenWith_17 : decode cX2_leastSeenWith 17 = .ok (.iconst 1, 1) := by decide +kernel
theorem dX2_leastSeenWith_18 : decode cX2_leastSeenWith 18 = .ok (.iand, 1) := by decide +kernel
theorem dX2_leastSeenWith_19 : decode cX2_leastSeenWith 19 = .ok (.iconst 1, 1) := by decide +kernel
theorem dX2_leastSeenWith_20 : decode cX2_leastSeenWith 20 = .ok (.if_icmp .ne 12, 3) := by decide +kernel
theorem dX2_leastSeenWith_23 : decode cX2_leastSeenWith 23 = .ok (.aload_n 0, 1) := by decide +kernel
theorem dX2_leastSeenWith_24 : decode cX2_leastSeenWith 24 = .ok (.iload_n 2, 1) := by decide +kernel
theorem dX2_leastSeenWith_25 : decode cX2_leastSeenWith 25 = .ok (.invokevirtual 67, 3) := by decide +kernel
theorem dX2_leastSeenWith_28 : decode cX2_leastSeenWith 28 = .ok (.invokestatic 89, 3) := by decide +kernel
theorem dX2_leastSeenWith_31 : decode cX2_leastSeenWith 31 = .ok (.ireturn, 1) := by decide +kernel
theorem dX2_leastSeenWith_32 : decode cX2_leastSeenWith 32 = .ok (.iinc 2 1, 3) := by decide +kernel
theorem dX2_leastSeenWith_35 : decode cX2_leastSeenWith 35 = .ok (.goto (-33), 3) := by decide +kernel
theorem dX2_leastSeenWith_38 : decode cX2_leastSeenWith 38 = .ok (.iload_n 1, 1) := by decide +kernel
theorem dX2_leastSeenWith_39 : decode cX2_leastSeenWith 39 = .ok (.ireturn, 1) := by decide +kernel
set_option maxHeartbeats 4000000 in
set_option maxRecDepth 100000 in
theorem c_X2_leastSeenWith (l : Launch) (D : eD) (T : Nat → ClassId) (h_t h_t_sketch : Nat) (t_allBits : Int32) (t_firstOrder : Int64) (t_isBeaten : Int32) (t_isStudy : Int32) (t_isTest : Int32) (t_least : Int32) (t_nodes : Int32) (t_order : Int64) (t_seen : Int64) (t_stillEdges : Int32) (t_symmetries : Int32) (p1 : Int32) (post : Int32 → Prop) (h : F_X2_leastSeenWith t_nodes t_seen p1 post) : cI l D T yX2_leastSeenWith cX2_leastSeenWith 3 (some .int) 1 21 0 0 [.ref h_t, .int p1] [(h_t, .inr (1, [.ref h_t_sketch, .int t_nodes, .int t_allBits, .int t_isTest, .int t_isBeaten, .int t_isStudy, .long t_order, .int t_least, .int t_symmetries, .long t_firstOrder, .long t_seen, .int t_stillEdges]))] (fun r w1 => w1 = [(h_t, .inr (1, [.ref h_t_sketch, .int t_nodes, .int t_allBits, .int t_isTest, .int t_isBeaten, .int t_isStudy, .long t_order, .int t_least, .int t_symmetries, .long t_firstOrder, .long t_seen, .int t_stillEdges]))] ∧ post r ) := by
  refine xI_of (ty := .int) (by decide +kernel) (Nat.le_of_ble_eq_true rfl) rfl ?_
  intro G X hret
  change G 0 0 0 [(0, .ref h_t), (1, .int p1)] [] [(h_t, .inr (1, [.ref h_t_sketch, .int t_nodes, .int t_allBits, .int t_isTest, .int t_isBeaten, .int t_isStudy, .long t_order, .int t_least, .int t_symmetries, .long t_firstOrder, .long t_seen, .int t_stillEdges]))]
  unfold F_X2_leastSeenWith at h
  have k2 : ∀ (n2 : Nat) (x1 : Int32) (x2 : Int32), F_X2_leastSeenWith_2 t_nodes t_seen post n2 x1 x2 → G 0 0 2 [(0, .ref h_t), (1, .int x1), (2, .int x2)] [] [(h_t, .inr (1, [.ref h_t_sketch, .int t_nodes, .int t_allBits, .int t_isTest, .int t_isBeaten, .int t_isStudy, .long t_order, .int t_least, .int t_symmetries, .long t_firstOrder, .long t_seen, .int t_stillEdges]))] := by
    intro n2
    induction n2 with
    | zero => intro x1 x2 h; exact h.elim
    | succ n2 ih2 =>
      intro x1 x2 h
      rw [F_X2_leastSeenWith_2] at h
      refine x_iload_n X dX2_leastSeenWith_2 2 rfl ?_
      refine x_aload_n X dX2_leastSeenWith_3 0 rfl ?_
      refine x_get X inGX2 1 (by decide) rfl tw_234 dX2_leastSeenWith_4 rfl 0 rfl rfl ?_
      refine x_icmp_ge (tgt := 38) X dX2_leastSeenWith_7 (by decide) (fun hc => ?_) (fun hc => ?_)
      · have h := h.1 hc
        refine x_iload_n X dX2_leastSeenWith_38 1 rfl ?_
        exact hret _ _ _ _ dX2_leastSeenWith_39 rfl ⟨rfl, h⟩
      · have h := h.2 hc
        refine x_aload_n X dX2_leastSeenWith_10 0 rfl ?_
        refine x_iload_n X dX2_leastSeenWith_11 2 rfl ?_
        refine x_callVI (av := [.int x2]) (st := []) (wr := []) X (c_X2_seenAt l D T h_t h_t_sketch t_allBits t_firstOrder t_isBeaten t_isStudy t_isTest t_least t_nodes t_order t_seen t_stillEdges t_symmetries x2 _ h) yk_X2_seenAt tw_929 dX2_leastSeenWith_12 0 rfl rfl [0] [] rfl rfl rfl rfl (by decide) rfl rfl (Nat.le_of_ble_eq_true rfl) (Nat.le_of_ble_eq_true rfl) (Nat.le_of_ble_eq_true rfl) (Nat.zero_le _) (Nat.zero_le _) (fun r12 w1 hw => ?_)
        obtain ⟨rfl, h⟩ := hw
        refine x_perm (ws2 := [(h_t, .inr (1, [.ref h_t_sketch, .int t_nodes, .int t_allBits, .int t_isTest, .int t_isBeaten, .int t_isStudy, .long t_order, .int t_least, .int t_symmetries, .long t_firstOrder, .long t_seen, .int t_stillEdges]))]) X [0] rfl rfl ?_
        refine x_iload_n X dX2_leastSeenWith_15 1 rfl ?_
        refine x_ishr X dX2_leastSeenWith_16 ?_
        refine x_iconst (v := 1) X dX2_leastSeenWith_17 (by decide) ?_
        refine x_iand X dX2_leastSeenWith_18 ?_
        refine x_iconst (v := 1) X dX2_leastSeenWith_19 (by decide) ?_
        refine x_icmp_ne (tgt := 32) X dX2_leastSeenWith_20 (by decide) (fun hc => ?_) (fun hc => ?_)
        · have h := h.1 hc
          refine x_iinc (v := (x2 + 1)) (lv' := [(2, .int (x2 + 1)), (0, .ref h_t), (1, .int x1)]) X dX2_leastSeenWith_32 2 rfl rfl (by decide) rfl ?_
          refine x_goto (tgt := 2) X dX2_leastSeenWith_35 (by decide) ?_
          exact x_sub X [1, 2, 0] rfl (ih2 x1 (x2 + 1) h)
        · have h := h.2 hc
          refine x_aload_n X dX2_leastSeenWith_23 0 rfl ?_
          refine x_iload_n X dX2_leastSeenWith_24 2 rfl ?_
          refine x_callVI (av := [.int x2]) (st := []) (wr := []) X (c_X2_seenAt l D T h_t h_t_sketch t_allBits t_firstOrder t_isBeaten t_isStudy t_isTest t_least t_nodes t_order t_seen t_stillEdges t_symmetries x2 _ h) yk_X2_seenAt tw_929 dX2_leastSeenWith_25 0 rfl rfl [0] [] rfl rfl rfl rfl (by decide) rfl rfl (Nat.le_of_ble_eq_true rfl) (Nat.le_of_ble_eq_true rfl) (Nat.le_of_ble_eq_true rfl) (Nat.zero_le _) (Nat.zero_le _) (fun r25 w1 hw => ?_)
          obtain ⟨rfl, h⟩ := hw
          refine x_perm (ws2 := [(h_t, .inr (1, [.ref h_t_sketch, .int t_nodes, .int t_allBits, .int t_isTest, .int t_isBeaten, .int t_isStudy, .long t_order, .int t_least, .int t_symmetries, .long t_firstOrder, .long t_seen, .int t_stillEdges]))]) X [0] rfl rfl ?_
          refine x_callSI (av := [.int r25]) (st := []) (wr := [(h_t, .inr (1, [.ref h_t_sketch, .int t_nodes, .int t_allBits, .int t_isTest, .int t_isBeaten, .int t_isStudy, .long t_order, .int t_least, .int t_symmetries, .long t_firstOrder, .long t_seen, .int t_stillEdges]))]) X (c_X7_lowest l D T  r25 _ h) yk_X7_lowest tw_933 dX2_leastSeenWith_28 [] [0] rfl rfl rfl rfl (by decide) rfl rfl (Nat.le_of_ble_eq_true rfl) (Nat.le_of_ble_eq_true rfl) (Nat.le_of_ble_eq_true rfl) (Nat.zero_le _) (Nat.zero_le _) (fun r28 w1 hw => ?_)
          obtain ⟨rfl, h⟩ := hw
          refine x_perm (ws2 := [(h_t, .inr (1, [.ref h_t_sketch, .int t_nodes, .int t_allBits, .int t_isTest, .int t_isBeaten, .int t_isStudy, .long t_order, .int t_least, .int t_symmetries, .long t_firstOrder, .long t_seen, .int t_stillEdges]))]) X [0] rfl rfl ?_
          exact hret _ _ _ _ dX2_leastSeenWith_31 rfl ⟨rfl, h⟩
  refine x_iconst (v := 0) X dX2_leastSeenWith_0 (by decide) ?_
  refine x_istore_n (lv' := [(2, .int (0 : Int32)), (0, .ref h_t), (1, .int p1)]) X dX2_leastSeenWith_1 (by decide) rfl ?_
  obtain ⟨n2, h⟩ := h
  exact x_sub X [1, 2, 0] rfl (k2 n2 p1 (0 : Int32) h)
theorem dX2_study_0 : decode cX2_study 0 = .ok (.aload_n 0, 1) := by decide +kernel
theorem dX2_study_1 : decode cX2_study 1 = .ok (.iload_n 1, 1) := by decide +kernel
theorem dX2_study_2 : decode cX2_study 2 = .ok (.iload_n 2, 1) := by decide +kernel
theorem dX2_study_3 : decode cX2_study 3 = .ok (.invokevirtual 16, 3) := by decide +kernel
theorem dX2_study_6 : decode cX2_study 6 = .ok (.aload_n 0, 1) := by decide +kernel
theorem dX2_study_7 : decode cX2_study 7 = .ok (.iconst 1, 1) := by decide +kernel
theorem dX2_study_8 : decode cX2_study 8 = .ok (.putfield 83, 3) := by decide +kernel
theorem dX2_study_11 : decode cX2_study 11 = .ok (.aload_n 0, 1) := by decide +kernel
theorem dX2_study_12 : decode cX2_study 12 = .ok (.iconst 0, 1) := by decide +kernel
theorem dX2_study_13 : decode cX2_study 13 = .ok (.iconst 0, 1) := by decide +kernel
theorem dX2_study_14 : decode cX2_study 14 = .ok (.iconst 0, 1) := by decide +kernel
theorem dX2_study_15 : decode cX2_study 15 = .ok (.aload_n 0, 1) := by decide +kernel
theorem dX2_study_16 : decode cX2_study 16 = .ok (.getfield 10, 3) := by decide +kernel
theorem dX2_study_19 : decode cX2_study 19 = .ok (.getfield 28, 3) := by decide +kernel
theorem dX2_study_22 : decode cX2_study 22 = .ok (.invokevirtual 32, 3) := by decide +kernel
theorem dX2_study_25 : decode cX2_study 25 = .ok (.return_, 1) := by decide +kernel
set_option maxHeartbeats 4000000 in
set_option maxRecDepth 100000 in
theorem c_X2_study (l : Launch) (D : eD) (T : Nat → ClassId) (h_t h_t_sketch h_t_sketch_near h_t_sketch_fans : Nat) (t_allBits : Int32) (t_firstOrder : Int64) (t_isBeaten : Int32) (t_isStudy : Int32) (t_isTest : Int32) (t_least : Int32) (t_nodes : Int32) (t_order : Int64) (t_seen : Int64) (t_stillEdges : Int32) (t_symmetries : Int32) (t_sketch_colours : Int64) (t_sketch_darks : Int32) (t_sketch_nodes : Int32) (t_sketch_fans : Nat → Int64) (t_sketch_near : Nat → Int32) (p1 : Int32) (p2 : Int32) (post : Int32 → Int64 → Int32 → Int32 → Int32 → Int32 → Int32 → Int64 → Int64 → Int32 → Int32 → Int64 → Int32 → Int32 → (Nat → Int64) → (Nat → Int32) → Prop) (h : F_X2_study t_allBits t_firstOrder t_isBeaten t_isStudy t_isTest t_least t_nodes t_order t_seen t_stillEdges t_symmetries t_sketch_colours t_sketch_darks t_sketch_nodes t_sketch_fans t_sketch_near p1 p2 post) : cV l D T yX2_study cX2_study 3 none 32 832 0 0 [.ref h_t, .int p1, .int p2] [(h_t, .inr (1, [.ref h_t_sketch, .int t_nodes, .int t_allBits, .int t_isTest, .int t_isBeaten, .int t_isStudy, .long t_order, .int t_least, .int t_symmetries, .long t_firstOrder, .long t_seen, .int t_stillEdges])), (h_t_sketch, .inr (6, [.ref h_t_sketch_near, .ref h_t_sketch_fans, .int t_sketch_nodes, .int t_sketch_darks, .long t_sketch_colours])), (h_t_sketch_fans, aJ T 6 t_sketch_fans), (h_t_sketch_near, aI T 6 t_sketch_near)] (fun w1 => ∃ (t_allBits1 : Int32) (t_firstOrder1 : Int64) (t_isBeaten1 : Int32) (t_isStudy1 : Int32) (t_isTest1 : Int32) (t_least1 : Int32) (t_nodes1 : Int32) (t_order1 : Int64) (t_seen1 : Int64) (t_stillEdges1 : Int32) (t_symmetries1 : Int32) (t_sketch_colours1 : Int64) (t_sketch_darks1 : Int32) (t_sketch_nodes1 : Int32) (t_sketch_fans1 : Nat → Int64) (t_sketch_near1 : Nat → Int32), w1 = [(h_t, .inr (1, [.ref h_t_sketch, .int t_nodes1, .int t_allBits1, .int t_isTest1, .int t_isBeaten1, .int t_isStudy1, .long t_order1, .int t_least1, .int t_symmetries1, .long t_firstOrder1, .long t_seen1, .int t_stillEdges1])), (h_t_sketch, .inr (6, [.ref h_t_sketch_near, .ref h_t_sketch_fans, .int t_sketch_nodes1, .int t_sketch_darks1, .long t_sketch_colours1])), (h_t_sketch_fans, aJ T 6 t_sketch_fans1), (h_t_sketch_near, aI T 6 t_sketch_near1)] ∧ post t_allBits1 t_firstOrder1 t_isBeaten1 t_isStudy1 t_isTest1 t_least1 t_nodes1 t_order1 t_seen1 t_stillEdges1 t_symmetries1 t_sketch_colours1 t_sketch_darks1 t_sketch_nodes1 t_sketch_fans1 t_sketch_near1) := by
  refine xV_of (by decide +kernel) (Nat.le_of_ble_eq_true rfl) rfl ?_
  intro G X hret
  change G 0 0 0 [(0, .ref h_t), (1, .int p1), (2, .int p2)] [] [(h_t, .inr (1, [.ref h_t_sketch, .int t_nodes, .int t_allBits, .int t_isTest, .int t_isBeaten, .int t_isStudy, .long t_order, .int t_least, .int t_symmetries, .long t_firstOrder, .long t_seen, .int t_stillEdges])), (h_t_sketch, .inr (6, [.ref h_t_sketch_near, .ref h_t_sketch_fans, .int t_sketch_nodes, .int t_sketch_darks, .long t_sketch_colours])), (h_t_sketch_fans, aJ T 6 t_sketch_fans), (h_t_sketch_near, aI T 6 t_sketch_near)]
  unfold F_X2_study at h
  refine x_aload_n X dX2_study_0 0 rfl ?_
  refine x_iload_n X dX2_study_1 1 rfl ?_
  refine x_iload_n X dX2_study_2 2 rfl ?_
  refine x_callVV (av := [.int p1, .int p2]) (st := []) (wr := []) X (c_X2_begin l D T h_t h_t_sketch h_t_sketch_near h_t_sketch_fans t_allBits t_firstOrder t_isBeaten t_isStudy t_isTest t_least t_nodes t_order t_seen t_stillEdges t_symmetries t_sketch_colours t_sketch_darks t_sketch_nodes t_sketch_fans t_sketch_near p1 p2 _ h) yk_X2_begin tw_344 dX2_study_3 0 rfl rfl [0, 1, 2, 3] [] rfl rfl rfl rfl (by decide) rfl rfl (Nat.le_of_ble_eq_true rfl) (Nat.le_of_ble_eq_true rfl) (Nat.le_of_ble_eq_true rfl) (Nat.zero_le _) (Nat.zero_le _) (fun w1 hw => ?_)
  obtain ⟨t_allBits_3, t_isBeaten_3, t_isStudy_3, t_isTest_3, t_least_3, t_nodes_3, t_symmetries_3, t_sketch_colours_3, t_sketch_darks_3, t_sketch_nodes_3, t_sketch_fans_3, t_sketch_near_3, rfl, h⟩ := hw
  refine x_perm (ws2 := [(h_t, .inr (1, [.ref h_t_sketch, .int t_nodes_3, .int t_allBits_3, .int t_isTest_3, .int t_isBeaten_3, .int t_isStudy_3, .long t_order, .int t_least_3, .int t_symmetries_3, .long t_firstOrder, .long t_seen, .int t_stillEdges])), (h_t_sketch, .inr (6, [.ref h_t_sketch_near, .ref h_t_sketch_fans, .int t_sketch_nodes_3, .int t_sketch_darks_3, .long t_sketch_colours_3])), (h_t_sketch_fans, aJ T 6 t_sketch_fans_3), (h_t_sketch_near, aI T 6 t_sketch_near_3)]) X [0, 1, 2, 3] rfl rfl ?_
  refine x_aload_n X dX2_study_6 0 rfl ?_
  refine x_iconst (v := 1) X dX2_study_7 (by decide) ?_
  refine x_put (ws' := [(h_t, .inr (1, [.ref h_t_sketch, .int t_nodes_3, .int t_allBits_3, .int t_isTest_3, .int t_isBeaten_3, .int (1 : Int32), .long t_order, .int t_least_3, .int t_symmetries_3, .long t_firstOrder, .long t_seen, .int t_stillEdges])), (h_t_sketch, .inr (6, [.ref h_t_sketch_near, .ref h_t_sketch_fans, .int t_sketch_nodes_3, .int t_sketch_darks_3, .long t_sketch_colours_3])), (h_t_sketch_fans, aJ T 6 t_sketch_fans_3), (h_t_sketch_near, aI T 6 t_sketch_near_3)]) X inGX2 tyX2_ok nmX2 5 (by decide) rfl tw_239 dX2_study_8 rfl rfl 0 rfl rfl rfl (Nat.le_of_ble_eq_true rfl) rfl ?_
  refine x_aload_n X dX2_study_11 0 rfl ?_
  refine x_iconst (v := 0) X dX2_study_12 (by decide) ?_
  refine x_iconst (v := 0) X dX2_study_13 (by decide) ?_
  refine x_iconst (v := 0) X dX2_study_14 (by decide) ?_
  refine x_aload_n X dX2_study_15 0 rfl ?_
  refine x_get X inGX2 0 (by decide) rfl tw_233 dX2_study_16 rfl 0 rfl rfl ?_
  refine x_getN X inGX7 4 (by decide) rfl tw_220 dX2_study_19 rfl 1 rfl rfl ?_
  refine x_callVV (av := [.int (0 : Int32), .int (0 : Int32), .int (0 : Int32), .long t_sketch_colours_3]) (st := []) (wr := [(h_t_sketch_near, aI T 6 t_sketch_near_3)]) X (c_X2_placeNext l D T h_t h_t_sketch h_t_sketch_near h_t_sketch_fans 10 t_allBits_3 t_firstOrder t_isBeaten_3 (1 : Int32) t_isTest_3 t_least_3 t_nodes_3 t_order t_seen t_stillEdges t_symmetries_3 t_sketch_colours_3 t_sketch_darks_3 t_sketch_nodes_3 t_sketch_fans_3 (0 : Int32) (0 : Int32) (0 : Int32) t_sketch_colours_3 _ h) yk_X2_placeNext tw_363 dX2_study_22 0 rfl rfl [0, 1, 2] [3] rfl rfl rfl rfl (by decide) rfl rfl (Nat.le_of_ble_eq_true rfl) (Nat.le_of_ble_eq_true rfl) (Nat.le_of_ble_eq_true rfl) (Nat.zero_le _) (Nat.zero_le _) (fun w1 hw => ?_)
  obtain ⟨t_firstOrder_22, t_isBeaten_22, t_least_22, t_order_22, t_seen_22, t_stillEdges_22, t_symmetries_22, rfl, h⟩ := hw
  refine x_perm (ws2 := [(h_t, .inr (1, [.ref h_t_sketch, .int t_nodes_3, .int t_allBits_3, .int t_isTest_3, .int t_isBeaten_22, .int (1 : Int32), .long t_order_22, .int t_least_22, .int t_symmetries_22, .long t_firstOrder_22, .long t_seen_22, .int t_stillEdges_22])), (h_t_sketch, .inr (6, [.ref h_t_sketch_near, .ref h_t_sketch_fans, .int t_sketch_nodes_3, .int t_sketch_darks_3, .long t_sketch_colours_3])), (h_t_sketch_fans, aJ T 6 t_sketch_fans_3), (h_t_sketch_near, aI T 6 t_sketch_near_3)]) X [1, 2, 3, 0] rfl rfl ?_
  exact hret _ _ _ dX2_study_25 ⟨t_allBits_3, t_firstOrder_22, t_isBeaten_22, (1 : Int32), t_isTest_3, t_least_22, t_nodes_3, t_order_22, t_seen_22, t_stillEdges_22, t_symmetries_22, t_sketch_colours_3, t_sketch_darks_3, t_sketch_nodes_3, t_sketch_fans_3, t_sketch_near_3, rfl, h⟩
theorem dX2_unlikeNodes_0 : decode cX2_unlikeNodes 0 = .ok (.aload_n 0, 1) := by decide +kernel
theorem dX2_unlikeNodes_1 : decode cX2_unlikeNodes 1 = .ok (.iload_n 1, 1) := by decide +kernel
theorem dX2_unlikeNodes_2 : decode cX2_unlikeNodes 2 = .ok (.iload_n 2, 1) := by decide +kernel
theorem dX2_unlikeNodes_3 : decode cX2_unlikeNodes 3 = .ok (.invokevirtual 58, 3) := by decide +kernel
theorem dX2_unlikeNodes_6 : decode cX2_unlikeNodes 6 = .ok (.iconst 0, 1) := by decide +kernel
theorem dX2_unlikeNodes_7 : decode cX2_unlikeNodes 7 = .ok (.istore_n 3, 1) := by decide +kernel
theorem dX2_unlikeNodes_8 : decode cX2_unlikeNodes 8 = .ok (.iconst 0, 1) := by decide +kernel
theorem dX2_unlikeNodes_9 : decode cX2_unlikeNodes 9 = .ok (.istore 4, 2) := by decide +kernel
theorem dX2_unlikeNodes_11 : decode cX2_unlikeNodes 11 = .ok (.iload 4, 2) := by decide +kernel
theorem dX2_unlikeNodes_13 : decode cX2_unlikeNodes 13 = .ok (.aload_n 0, 1) := by decide +kernel
theorem dX2_unlikeNodes_14 : decode cX2_unlikeNodes 14 = .ok (.getfield 61, 3) := by decide +kernel
theorem dX2_unlikeNodes_17 : decode cX2_unlikeNodes 17 = .ok (.if_icmp .ge 23, 3) := by decide +kernel
theorem dX2_unlikeNodes_20 : decode cX2_unlikeNodes 20 = .ok (.aload_n 0, 1) := by decide +kernel
theorem dX2_unlikeNodes_21 : decode cX2_unlikeNodes 21 = .ok (.iload 4, 2) := by decide +kernel
theorem dX2_unlikeNodes_23 : decode cX2_unlikeNodes 23 = .ok (.invokevirtual 64, 3) := by decide +kernel
theorem dX2_unlikeNodes_26 : decode cX2_unlikeNodes 26 = .ok (.iload 4, 2) := by decide +kernel
theorem dX2_unlikeNodes_28 : decode cX2_unlikeNodes 28 = .ok (.if_icmp .ne 6, 3) := by decide +kernel
theorem dX2_unlikeNodes_31 : decode cX2_unlikeNodes 31 = .ok (.iinc 3 1, 3) := by decide +kernel
theorem dX2_unlikeNodes_34 : decode cX2_unlikeNodes 34 = .ok (.iinc 4 1, 3) := by decide +kernel
theorem dX2_unlikeNodes_37 : decode cX2_unlikeNodes 37 = .ok (.goto (-26), 3) := by decide +kernel
theorem dX2_unlikeNodes_40 : decode cX2_unlikeNodes 40 = .ok (.iload_n 3, 1) := by decide +kernel
theorem dX2_unlikeNodes_41 : decode cX2_unlikeNodes 41 = .ok (.ireturn, 1) := by decide +kernel
set_option maxHeartbeats 4000000 in
set_option maxRecDepth 100000 in
theorem c_X2_unlikeNodes (l : Launch) (D : eD) (T : Nat → ClassId) (h_t h_t_sketch h_t_sketch_near h_t_sketch_fans : Nat) (t_allBits : Int32) (t_firstOrder : Int64) (t_isBeaten : Int32) (t_isStudy : Int32) (t_isTest : Int32) (t_least : Int32) (t_nodes : Int32) (t_order : Int64) (t_seen : Int64) (t_stillEdges : Int32) (t_symmetries : Int32) (t_sketch_colours : Int64) (t_sketch_darks : Int32) (t_sketch_nodes : Int32) (t_sketch_fans : Nat → Int64) (t_sketch_near : Nat → Int32) (p1 : Int32) (p2 : Int32) (post : Int32 → Int32 → Int64 → Int32 → Int32 → Int32 → Int32 → Int32 → Int64 → Int64 → Int32 → Int32 → Int64 → Int32 → Int32 → (Nat → Int64) → (Nat → Int32) → Prop) (h : F_X2_unlikeNodes t_allBits t_firstOrder t_isBeaten t_isStudy t_isTest t_least t_nodes t_order t_seen t_stillEdges t_symmetries t_sketch_colours t_sketch_darks t_sketch_nodes t_sketch_fans t_sketch_near p1 p2 post) : cI l D T yX2_unlikeNodes cX2_unlikeNodes 5 (some .int) 33 854 0 0 [.ref h_t, .int p1, .int p2] [(h_t, .inr (1, [.ref h_t_sketch, .int t_nodes, .int t_allBits, .int t_isTest, .int t_isBeaten, .int t_isStudy, .long t_order, .int t_least, .int t_symmetries, .long t_firstOrder, .long t_seen, .int t_stillEdges])), (h_t_sketch, .inr (6, [.ref h_t_sketch_near, .ref h_t_sketch_fans, .int t_sketch_nodes, .int t_sketch_darks, .long t_sketch_colours])), (h_t_sketch_fans, aJ T 6 t_sketch_fans), (h_t_sketch_near, aI T 6 t_sketch_near)] (fun r w1 => ∃ (t_allBits1 : Int32) (t_firstOrder1 : Int64) (t_isBeaten1 : Int32) (t_isStudy1 : Int32) (t_isTest1 : Int32) (t_least1 : Int32) (t_nodes1 : Int32) (t_order1 : Int64) (t_seen1 : Int64) (t_stillEdges1 : Int32) (t_symmetries1 : Int32) (t_sketch_colours1 : Int64) (t_sketch_darks1 : Int32) (t_sketch_nodes1 : Int32) (t_sketch_fans1 : Nat → Int64) (t_sketch_near1 : Nat → Int32), w1 = [(h_t, .inr (1, [.ref h_t_sketch, .int t_nodes1, .int t_allBits1, .int t_isTest1, .int t_isBeaten1, .int t_isStudy1, .long t_order1, .int t_least1, .int t_symmetries1, .long t_firstOrder1, .long t_seen1, .int t_stillEdges1])), (h_t_sketch, .inr (6, [.ref h_t_sketch_near, .ref h_t_sketch_fans, .int t_sketch_nodes1, .int t_sketch_darks1, .long t_sketch_colours1])), (h_t_sketch_fans, aJ T 6 t_sketch_fans1), (h_t_sketch_near, aI T 6 t_sketch_near1)] ∧ post r t_allBits1 t_firstOrder1 t_isBeaten1 t_isStudy1 t_isTest1 t_least1 t_nodes1 t_order1 t_seen1 t_stillEdges1 t_symmetries1 t_sketch_colours1 t_sketch_darks1 t_sketch_nodes1 t_sketch_fans1 t_sketch_near1) := by
  refine xI_of (ty := .int) (by decide +kernel) (Nat.le_of_ble_eq_true rfl) rfl ?_
  intro G X hret
  change G 0 0 0 [(0, .ref h_t), (1, .int p1), (2, .int p2)] [] [(h_t, .inr (1, [.ref h_t_sketch, .int t_nodes, .int t_allBits, .int t_isTest, .int t_isBeaten, .int t_isStudy, .long t_order, .int t_least, .int t_symmetries, .long t_firstOrder, .long t_seen, .int t_stillEdges])), (h_t_sketch, .inr (6, [.ref h_t_sketch_near, .ref h_t_sketch_fans, .int t_sketch_nodes, .int t_sketch_darks, .long t_sketch_colours])), (h_t_sketch_fans, aJ T 6 t_sketch_fans), (h_t_sketch_near, aI T 6 t_sketch_near)]
  unfold F_X2_unlikeNodes at h
  have k11 : ∀ (n11 : Nat) (x3 : Int32) (x4 : Int32) (t_allBits : Int32) (t_firstOrder : Int64) (t_isBeaten : Int32) (t_isStudy : Int32) (t_isTest : Int32) (t_least : Int32) (t_nodes : Int32) (t_order : Int64) (t_seen : Int64) (t_stillEdges : Int32) (t_symmetries : Int32) (t_sketch_colours : Int64) (t_sketch_darks : Int32) (t_sketch_nodes : Int32) (t_sketch_fans : Nat → Int64) (t_sketch_near : Nat → Int32), F_X2_unlikeNodes_11 post n11 x3 x4 t_allBits t_firstOrder t_isBeaten t_isStudy t_isTest t_least t_nodes t_order t_seen t_stillEdges t_symmetries t_sketch_colours t_sketch_darks t_sketch_nodes t_sketch_fans t_sketch_near → G 0 0 11 [(0, .ref h_t), (3, .int x3), (4, .int x4)] [] [(h_t, .inr (1, [.ref h_t_sketch, .int t_nodes, .int t_allBits, .int t_isTest, .int t_isBeaten, .int t_isStudy, .long t_order, .int t_least, .int t_symmetries, .long t_firstOrder, .long t_seen, .int t_stillEdges])), (h_t_sketch, .inr (6, [.ref h_t_sketch_near, .ref h_t_sketch_fans, .int t_sketch_nodes, .int t_sketch_darks, .long t_sketch_colours])), (h_t_sketch_fans, aJ T 6 t_sketch_fans), (h_t_sketch_near, aI T 6 t_sketch_near)] := by
    intro n11
    induction n11 with
    | zero => intro x3 x4 t_allBits t_firstOrder t_isBeaten t_isStudy t_isTest t_least t_nodes t_order t_seen t_stillEdges t_symmetries t_sketch_colours t_sketch_darks t_sketch_nodes t_sketch_fans t_sketch_near h; exact h.elim
    | succ n11 ih11 =>
      intro x3 x4 t_allBits t_firstOrder t_isBeaten t_isStudy t_isTest t_least t_nodes t_order t_seen t_stillEdges t_symmetries t_sketch_colours t_sketch_darks t_sketch_nodes t_sketch_fans t_sketch_near h
      rw [F_X2_unlikeNodes_11] at h
      have k34 : ∀ (x3 : Int32) (x4 : Int32) (t_allBits : Int32) (t_firstOrder : Int64) (t_isBeaten : Int32) (t_isStudy : Int32) (t_isTest : Int32) (t_least : Int32) (t_nodes : Int32) (t_order : Int64) (t_seen : Int64) (t_stillEdges : Int32) (t_symmetries : Int32) (t_sketch_colours : Int64) (t_sketch_darks : Int32) (t_sketch_nodes : Int32) (t_sketch_fans : Nat → Int64) (t_sketch_near : Nat → Int32), F_X2_unlikeNodes_34 post (F_X2_unlikeNodes_11 post n11) x3 x4 t_allBits t_firstOrder t_isBeaten t_isStudy t_isTest t_least t_nodes t_order t_seen t_stillEdges t_symmetries t_sketch_colours t_sketch_darks t_sketch_nodes t_sketch_fans t_sketch_near → G 0 0 34 [(0, .ref h_t), (3, .int x3), (4, .int x4)] [] [(h_t, .inr (1, [.ref h_t_sketch, .int t_nodes, .int t_allBits, .int t_isTest, .int t_isBeaten, .int t_isStudy, .long t_order, .int t_least, .int t_symmetries, .long t_firstOrder, .long t_seen, .int t_stillEdges])), (h_t_sketch, .inr (6, [.ref h_t_sketch_near, .ref h_t_sketch_fans, .int t_sketch_nodes, .int t_sketch_darks, .long t_sketch_colours])), (h_t_sketch_fans, aJ T 6 t_sketch_fans), (h_t_sketch_near, aI T 6 t_sketch_near)] := by
        intro x3 x4 t_allBits t_firstOrder t_isBeaten t_isStudy t_isTest t_least t_nodes t_order t_seen t_stillEdges t_symmetries t_sketch_colours t_sketch_darks t_sketch_nodes t_sketch_fans t_sketch_near h
        unfold F_X2_unlikeNodes_34 at h
        refine x_iinc (v := (x4 + 1)) (lv' := [(4, .int (x4 + 1)), (0, .ref h_t), (3, .int x3)]) X dX2_unlikeNodes_34 2 rfl rfl (by decide) rfl ?_
        refine x_goto (tgt := 11) X dX2_unlikeNodes_37 (by decide) ?_
        exact x_sub X [1, 2, 0] rfl (ih11 x3 (x4 + 1) t_allBits t_firstOrder t_isBeaten t_isStudy t_isTest t_least t_nodes t_order t_seen t_stillEdges t_symmetries t_sketch_colours t_sketch_darks t_sketch_nodes t_sketch_fans t_sketch_near h)
      refine x_iload X dX2_unlikeNodes_11 2 rfl ?_
      refine x_aload_n X dX2_unlikeNodes_13 0 rfl ?_
      refine x_get X inGX2 1 (by decide) rfl tw_234 dX2_unlikeNodes_14 rfl 0 rfl rfl ?_
      refine x_icmp_ge (tgt := 40) X dX2_unlikeNodes_17 (by decide) (fun hc => ?_) (fun hc => ?_)
      · have h := h.1 hc
        refine x_iload_n X dX2_unlikeNodes_40 1 rfl ?_
        exact hret _ _ _ _ dX2_unlikeNodes_41 rfl ⟨t_allBits, t_firstOrder, t_isBeaten, t_isStudy, t_isTest, t_least, t_nodes, t_order, t_seen, t_stillEdges, t_symmetries, t_sketch_colours, t_sketch_darks, t_sketch_nodes, t_sketch_fans, t_sketch_near, rfl, h⟩
      · have h := h.2 hc
        refine x_aload_n X dX2_unlikeNodes_20 0 rfl ?_
        refine x_iload X dX2_unlikeNodes_21 2 rfl ?_
        refine x_callVI (av := [.int x4]) (st := []) (wr := [(h_t_sketch, .inr (6, [.ref h_t_sketch_near, .ref h_t_sketch_fans, .int t_sketch_nodes, .int t_sketch_darks, .long t_sketch_colours])), (h_t_sketch_fans, aJ T 6 t_sketch_fans), (h_t_sketch_near, aI T 6 t_sketch_near)]) X (c_X2_leastSeenWith l D T h_t h_t_sketch t_allBits t_firstOrder t_isBeaten t_isStudy t_isTest t_least t_nodes t_order t_seen t_stillEdges t_symmetries x4 _ h) yk_X2_leastSeenWith tw_925 dX2_unlikeNodes_23 0 rfl rfl [0] [1, 2, 3] rfl rfl rfl rfl (by decide) rfl rfl (Nat.le_of_ble_eq_true rfl) (Nat.le_of_ble_eq_true rfl) (Nat.le_of_ble_eq_true rfl) (Nat.zero_le _) (Nat.zero_le _) (fun r23 w1 hw => ?_)
        obtain ⟨rfl, h⟩ := hw
        refine x_perm (ws2 := [(h_t, .inr (1, [.ref h_t_sketch, .int t_nodes, .int t_allBits, .int t_isTest, .int t_isBeaten, .int t_isStudy, .long t_order, .int t_least, .int t_symmetries, .long t_firstOrder, .long t_seen, .int t_stillEdges])), (h_t_sketch, .inr (6, [.ref h_t_sketch_near, .ref h_t_sketch_fans, .int t_sketch_nodes, .int t_sketch_darks, .long t_sketch_colours])), (h_t_sketch_fans, aJ T 6 t_sketch_fans), (h_t_sketch_near, aI T 6 t_sketch_near)]) X [3, 0, 1, 2] rfl rfl ?_
        refine x_iload X dX2_unlikeNodes_26 2 rfl ?_
        refine x_icmp_ne (tgt := 34) X dX2_unlikeNodes_28 (by decide) (fun hc => ?_) (fun hc => ?_)
        · have h := h.1 hc
          exact x_sub X [0, 1, 2] rfl (k34 x3 x4 t_allBits t_firstOrder t_isBeaten t_isStudy t_isTest t_least t_nodes t_order t_seen t_stillEdges t_symmetries t_sketch_colours t_sketch_darks t_sketch_nodes t_sketch_fans t_sketch_near h)
        · have h := h.2 hc
          refine x_iinc (v := (x3 + 1)) (lv' := [(3, .int (x3 + 1)), (0, .ref h_t), (4, .int x4)]) X dX2_unlikeNodes_31 1 rfl rfl (by decide) rfl ?_
          exact x_sub X [1, 0, 2] rfl (k34 (x3 + 1) x4 t_allBits t_firstOrder t_isBeaten t_isStudy t_isTest t_least t_nodes t_order t_seen t_stillEdges t_symmetries t_sketch_colours t_sketch_darks t_sketch_nodes t_sketch_fans t_sketch_near h)
  refine x_aload_n X dX2_unlikeNodes_0 0 rfl ?_
  refine x_iload_n X dX2_unlikeNodes_1 1 rfl ?_
  refine x_iload_n X dX2_unlikeNodes_2 2 rfl ?_
  refine x_callVV (av := [.int p1, .int p2]) (st := []) (wr := []) X (c_X2_study l D T h_t h_t_sketch h_t_sketch_near h_t_sketch_fans t_allBits t_firstOrder t_isBeaten t_isStudy t_isTest t_least t_nodes t_order t_seen t_stillEdges t_symmetries t_sketch_colours t_sketch_darks t_sketch_nodes t_sketch_fans t_sketch_near p1 p2 _ h) yk_X2_study tw_921 dX2_unlikeNodes_3 0 rfl rfl [0, 1, 2, 3] [] rfl rfl rfl rfl (by decide) rfl rfl (Nat.le_of_ble_eq_true rfl) (Nat.le_of_ble_eq_true rfl) (Nat.le_of_ble_eq_true rfl) (Nat.zero_le _) (Nat.zero_le _) (fun w1 hw => ?_)
  obtain ⟨t_allBits_3, t_firstOrder_3, t_isBeaten_3, t_isStudy_3, t_isTest_3, t_least_3, t_nodes_3, t_order_3, t_seen_3, t_stillEdges_3, t_symmetries_3, t_sketch_colours_3, t_sketch_darks_3, t_sketch_nodes_3, t_sketch_fans_3, t_sketch_near_3, rfl, h⟩ := hw
  refine x_perm (ws2 := [(h_t, .inr (1, [.ref h_t_sketch, .int t_nodes_3, .int t_allBits_3, .int t_isTest_3, .int t_isBeaten_3, .int t_isStudy_3, .long t_order_3, .int t_least_3, .int t_symmetries_3, .long t_firstOrder_3, .long t_seen_3, .int t_stillEdges_3])), (h_t_sketch, .inr (6, [.ref h_t_sketch_near, .ref h_t_sketch_fans, .int t_sketch_nodes_3, .int t_sketch_darks_3, .long t_sketch_colours_3])), (h_t_sketch_fans, aJ T 6 t_sketch_fans_3), (h_t_sketch_near, aI T 6 t_sketch_near_3)]) X [0, 1, 2, 3] rfl rfl ?_
  refine x_iconst (v := 0) X dX2_unlikeNodes_6 (by decide) ?_
  refine x_istore_n (lv' := [(3, .int (0 : Int32)), (0, .ref h_t), (1, .int p1), (2, .int p2)]) X dX2_unlikeNodes_7 (by decide) rfl ?_
  refine x_iconst (v := 0) X dX2_unlikeNodes_8 (by decide) ?_
  refine x_istore (lv' := [(4, .int (0 : Int32)), (3, .int (0 : Int32)), (0, .ref h_t), (1, .int p1), (2, .int p2)]) X dX2_unlikeNodes_9 (by decide) rfl ?_
  obtain ⟨n11, h⟩ := h
  exact x_sub X [2, 1, 0] rfl (k11 n11 (0 : Int32) (0 : Int32) t_allBits_3 t_firstOrder_3 t_isBeaten_3 t_isStudy_3 t_isTest_3 t_least_3 t_nodes_3 t_order_3 t_seen_3 t_stillEdges_3 t_symmetries_3 t_sketch_colours_3 t_sketch_darks_3 t_sketch_nodes_3 t_sketch_fans_3 t_sketch_near_3 h)
theorem dX2_leastLike_0 : decode cX2_leastLike 0 = .ok (.aload_n 0, 1) := by decide +kernel
theorem dX2_leastLike_1 : decode cX2_leastLike 1 = .ok (.iload_n 1, 1) := by decide +kernel
theorem dX2_leastLike_2 : decode cX2_leastLike 2 = .ok (.iload_n 2, 1) := by decide +kernel
theorem dX2_leastLike_3 : decode cX2_leastLike 3 = .ok (.invokevirtual 58, 3) := by decide +kernel
theorem dX2_leastLike_6 : decode cX2_leastLike 6 = .ok (.aload_n 0, 1) := by decide +kernel
theorem dX2_leastLike_7 : decode cX2_leastLike 7 = .ok (.iload_n 3, 1) := by decide +kernel
theorem dX2_leastLike_8 : decode cX2_leastLike 8 = .ok (.invokevirtual 64, 3) := by decide +kernel
theorem dX2_leastLike_11 : decode cX2_leastLike 11 = .ok (.ireturn, 1) := by decide +kernel
set_option maxHeartbeats 4000000 in
set_option maxRecDepth 100000 in
theorem c_X2_leastLike (l : Launch) (D : eD) (T : Nat → ClassId) (h_t h_t_sketch h_t_sketch_near h_t_sketch_fans : Nat) (t_allBits : Int32) (t_firstOrder : Int64) (t_isBeaten : Int32) (t_isStudy : Int32) (t_isTest : Int32) (t_least : Int32) (t_nodes : Int32) (t_order : Int64) (t_seen : Int64) (t_stillEdges : Int32) (t_symmetries : Int32) (t_sketch_colours : Int64) (t_sketch_darks : Int32) (t_sketch_nodes : Int32) (t_sketch_fans : Nat → Int64) (t_sketch_near : Nat → Int32) (p1 : Int32) (p2 : Int32) (p3 : Int32) (post : Int32 → Int32 → Int64 → Int32 → Int32 → Int32 → Int32 → Int32 → Int64 → Int64 → Int32 → Int32 → Int64 → Int32 → Int32 → (Nat → Int64) → (Nat → Int32) → Prop) (h : F_X2_leastLike t_allBits t_firstOrder t_isBeaten t_isStudy t_isTest t_least t_nodes t_order t_seen t_stillEdges t_symmetries t_sketch_colours t_sketch_darks t_sketch_nodes t_sketch_fans t_sketch_near p1 p2 p3 post) : cI l D T yX2_leastLike cX2_leastLike 4 (some .int) 33 854 0 0 [.ref h_t, .int p1, .int p2, .int p3] [(h_t, .inr (1, [.ref h_t_sketch, .int t_nodes, .int t_allBits, .int t_isTest, .int t_isBeaten, .int t_isStudy, .long t_order, .int t_least, .int t_symmetries, .long t_firstOrder, .long t_seen, .int t_stillEdges])), (h_t_sketch, .inr (6, [.ref h_t_sketch_near, .ref h_t_sketch_fans, .int t_sketch_nodes, .int t_sketch_darks, .long t_sketch_colours])), (h_t_sketch_fans, aJ T 6 t_sketch_fans), (h_t_sketch_near, aI T 6 t_sketch_near)] (fun r w1 => ∃ (t_allBits1 : Int32) (t_firstOrder1 : Int64) (t_isBeaten1 : Int32) (t_isStudy1 : Int32) (t_isTest1 : Int32) (t_least1 : Int32) (t_nodes1 : Int32) (t_order1 : Int64) (t_seen1 : Int64) (t_stillEdges1 : Int32) (t_symmetries1 : Int32) (t_sketch_colours1 : Int64) (t_sketch_darks1 : Int32) (t_sketch_nodes1 : Int32) (t_sketch_fans1 : Nat → Int64) (t_sketch_near1 : Nat → Int32), w1 = [(h_t, .inr (1, [.ref h_t_sketch, .int t_nodes1, .int t_allBits1, .int t_isTest1, .int t_isBeaten1, .int t_isStudy1, .long t_order1, .int t_least1, .int t_symmetries1, .long t_firstOrder1, .long t_seen1, .int t_stillEdges1])), (h_t_sketch, .inr (6, [.ref h_t_sketch_near, .ref h_t_sketch_fans, .int t_sketch_nodes1, .int t_sketch_darks1, .long t_sketch_colours1])), (h_t_sketch_fans, aJ T 6 t_sketch_fans1), (h_t_sketch_near, aI T 6 t_sketch_near1)] ∧ post r t_allBits1 t_firstOrder1 t_isBeaten1 t_isStudy1 t_isTest1 t_least1 t_nodes1 t_order1 t_seen1 t_stillEdges1 t_symmetries1 t_sketch_colours1 t_sketch_darks1 t_sketch_nodes1 t_sketch_fans1 t_sketch_near1) := by
  refine xI_of (ty := .int) (by decide +kernel) (Nat.le_of_ble_eq_true rfl) rfl ?_
  intro G X hret
  change G 0 0 0 [(0, .ref h_t), (1, .int p1), (2, .int p2), (3, .int p3)] [] [(h_t, .inr (1, [.ref h_t_sketch, .int t_nodes, .int t_allBits, .int t_isTest, .int t_isBeaten, .int t_isStudy, .long t_order, .int t_least, .int t_symmetries, .long t_firstOrder, .long t_seen, .int t_stillEdges])), (h_t_sketch, .inr (6, [.ref h_t_sketch_near, .ref h_t_sketch_fans, .int t_sketch_nodes, .int t_sketch_darks, .long t_sketch_colours])), (h_t_sketch_fans, aJ T 6 t_sketch_fans), (h_t_sketch_near, aI T 6 t_sketch_near)]
  unfold F_X2_leastLike at h
  refine x_aload_n X dX2_leastLike_0 0 rfl ?_
  refine x_iload_n X dX2_leastLike_1 1 rfl ?_
  refine x_iload_n X dX2_leastLike_2 2 rfl ?_
  refine x_callVV (av := [.int p1, .int p2]) (st := []) (wr := []) X (c_X2_study l D T h_t h_t_sketch h_t_sketch_near h_t_sketch_fans t_allBits t_firstOrder t_isBeaten t_isStudy t_isTest t_least t_nodes t_order t_seen t_stillEdges t_symmetries t_sketch_colours t_sketch_darks t_sketch_nodes t_sketch_fans t_sketch_near p1 p2 _ h) yk_X2_study tw_921 dX2_leastLike_3 0 rfl rfl [0, 1, 2, 3] [] rfl rfl rfl rfl (by decide) rfl rfl (Nat.le_of_ble_eq_true rfl) (Nat.le_of_ble_eq_true rfl) (Nat.le_of_ble_eq_true rfl) (Nat.zero_le _) (Nat.zero_le _) (fun w1 hw => ?_)
  obtain ⟨t_allBits_3, t_firstOrder_3, t_isBeaten_3, t_isStudy_3, t_isTest_3, t_least_3, t_nodes_3, t_order_3, t_seen_3, t_stillEdges_3, t_symmetries_3, t_sketch_colours_3, t_sketch_darks_3, t_sketch_nodes_3, t_sketch_fans_3, t_sketch_near_3, rfl, h⟩ := hw
  refine x_perm (ws2 := [(h_t, .inr (1, [.ref h_t_sketch, .int t_nodes_3, .int t_allBits_3, .int t_isTest_3, .int t_isBeaten_3, .int t_isStudy_3, .long t_order_3, .int t_least_3, .int t_symmetries_3, .long t_firstOrder_3, .long t_seen_3, .int t_stillEdges_3])), (h_t_sketch, .inr (6, [.ref h_t_sketch_near, .ref h_t_sketch_fans, .int t_sketch_nodes_3, .int t_sketch_darks_3, .long t_sketch_colours_3])), (h_t_sketch_fans, aJ T 6 t_sketch_fans_3), (h_t_sketch_near, aI T 6 t_sketch_near_3)]) X [0, 1, 2, 3] rfl rfl ?_
  refine x_aload_n X dX2_leastLike_6 0 rfl ?_
  refine x_iload_n X dX2_leastLike_7 3 rfl ?_
  refine x_callVI (av := [.int p3]) (st := []) (wr := [(h_t_sketch, .inr (6, [.ref h_t_sketch_near, .ref h_t_sketch_fans, .int t_sketch_nodes_3, .int t_sketch_darks_3, .long t_sketch_colours_3])), (h_t_sketch_fans, aJ T 6 t_sketch_fans_3), (h_t_sketch_near, aI T 6 t_sketch_near_3)]) X (c_X2_leastSeenWith l D T h_t h_t_sketch t_allBits_3 t_firstOrder_3 t_isBeaten_3 t_isStudy_3 t_isTest_3 t_least_3 t_nodes_3 t_order_3 t_seen_3 t_stillEdges_3 t_symmetries_3 p3 _ h) yk_X2_leastSeenWith tw_925 dX2_leastLike_8 0 rfl rfl [0] [1, 2, 3] rfl rfl rfl rfl (by decide) rfl rfl (Nat.le_of_ble_eq_true rfl) (Nat.le_of_ble_eq_true rfl) (Nat.le_of_ble_eq_true rfl) (Nat.zero_le _) (Nat.zero_le _) (fun r8 w1 hw => ?_)
  obtain ⟨rfl, h⟩ := hw
  refine x_perm (ws2 := [(h_t, .inr (1, [.ref h_t_sketch, .int t_nodes_3, .int t_allBits_3, .int t_isTest_3, .int t_isBeaten_3, .int t_isStudy_3, .long t_order_3, .int t_least_3, .int t_symmetries_3, .long t_firstOrder_3, .long t_seen_3, .int t_stillEdges_3])), (h_t_sketch, .inr (6, [.ref h_t_sketch_near, .ref h_t_sketch_fans, .int t_sketch_nodes_3, .int t_sketch_darks_3, .long t_sketch_colours_3])), (h_t_sketch_fans, aJ T 6 t_sketch_fans_3), (h_t_sketch_near, aI T 6 t_sketch_near_3)]) X [3, 0, 1, 2] rfl rfl ?_
  exact hret _ _ _ _ dX2_leastLike_11 rfl ⟨t_allBits_3, t_firstOrder_3, t_isBeaten_3, t_isStudy_3, t_isTest_3, t_least_3, t_nodes_3, t_order_3, t_seen_3, t_stillEdges_3, t_symmetries_3, t_sketch_colours_3, t_sketch_darks_3, t_sketch_nodes_3, t_sketch_fans_3, t_sketch_near_3, rfl, h⟩
theorem dX2_lastNodes_0 : decode cX2_lastNodes 0 = .ok (.aload_n 0, 1) := by decide +kernel
theorem dX2_lastNodes_1 : decode cX2_lastNodes 1 = .ok (.iload_n 1, 1) := by decide +kernel
theorem dX2_lastNodes_2 : decode cX2_lastNodes 2 = .ok (.iload_n 2, 1) := by decide +kernel
theorem dX2_lastNodes_3 : decode cX2_lastNodes 3 = .ok (.invokevirtual 58, 3) := by decide +kernel
theorem dX2_lastNodes_6 : decode cX2_lastNodes 6 = .ok (.aload_n 0, 1) := by decide +kernel
theorem dX2_lastNodes_7 : decode cX2_lastNodes 7 = .ok (.aload_n 0, 1) := by decide +kernel
theorem dX2_lastNodes_8 : decode cX2_lastNodes 8 = .ok (.getfield 61, 3) := by decide +kernel
theorem dX2_lastNodes_11 : decode cX2_lastNodes 11 = .ok (.iconst 1, 1) := by decide +kernel
theorem dX2_lastNodes_12 : decode cX2_lastNodes 12 = .ok (.isub, 1) := by decide +kernel
theorem dX2_lastNodes_13 : decode cX2_lastNodes 13 = .ok (.invokevirtual 67, 3) := by decide +kernel
theorem dX2_lastNodes_16 : decode cX2_lastNodes 16 = .ok (.ireturn, 1) := by decide +kernel
set_option maxHeartbeats 4000000 in
set_option maxRecDepth 100000 in
theorem c_X2_lastNodes (l : Launch) (D : eD) (T : Nat → ClassId) (h_t h_t_sketch h_t_sketch_near h_t_sketch_fans : Nat) (t_allBits : Int32) (t_firstOrder : Int64) (t_isBeaten : Int32) (t_isStudy : Int32) (t_isTest : Int32) (t_least : Int32) (t_nodes : Int32) (t_order : Int64) (t_seen : Int64) (t_stillEdges : Int32) (t_symmetries : Int32) (t_sketch_colours : Int64) (t_sketch_darks : Int32) (t_sketch_nodes : Int32) (t_sketch_fans : Nat → Int64) (t_sketch_near : Nat → Int32) (p1 : Int32) (p2 : Int32) (post : Int32 → Int32 → Int64 → Int32 → Int32 → Int32 → Int32 → Int32 → Int64 → Int64 → Int32 → Int32 → Int64 → Int32 → Int32 → (Nat → Int64) → (Nat → Int32) → Prop) (h : F_X2_lastNodes t_allBits t_firstOrder t_isBeaten t_isStudy t_isTest t_least t_nodes t_order t_seen t_stillEdges t_symmetries t_sketch_colours t_sketch_darks t_sketch_nodes t_sketch_fans t_sketch_near p1 p2 post) : cI l D T yX2_lastNodes cX2_lastNodes 3 (some .int) 33 854 0 0 [.ref h_t, .int p1, .int p2] [(h_t, .inr (1, [.ref h_t_sketch, .int t_nodes, .int t_allBits, .int t_isTest, .int t_isBeaten, .int t_isStudy, .long t_order, .int t_least, .int t_symmetries, .long t_firstOrder, .long t_seen, .int t_stillEdges])), (h_t_sketch, .inr (6, [.ref h_t_sketch_near, .ref h_t_sketch_fans, .int t_sketch_nodes, .int t_sketch_darks, .long t_sketch_colours])), (h_t_sketch_fans, aJ T 6 t_sketch_fans), (h_t_sketch_near, aI T 6 t_sketch_near)] (fun r w1 => ∃ (t_allBits1 : Int32) (t_firstOrder1 : Int64) (t_isBeaten1 : Int32) (t_isStudy1 : Int32) (t_isTest1 : Int32) (t_least1 : Int32) (t_nodes1 : Int32) (t_order1 : Int64) (t_seen1 : Int64) (t_stillEdges1 : Int32) (t_symmetries1 : Int32) (t_sketch_colours1 : Int64) (t_sketch_darks1 : Int32) (t_sketch_nodes1 : Int32) (t_sketch_fans1 : Nat → Int64) (t_sketch_near1 : Nat → Int32), w1 = [(h_t, .inr (1, [.ref h_t_sketch, .int t_nodes1, .int t_allBits1, .int t_isTest1, .int t_isBeaten1, .int t_isStudy1, .long t_order1, .int t_least1, .int t_symmetries1, .long t_firstOrder1, .long t_seen1, .int t_stillEdges1])), (h_t_sketch, .inr (6, [.ref h_t_sketch_near, .ref h_t_sketch_fans, .int t_sketch_nodes1, .int t_sketch_darks1, .long t_sketch_colours1])), (h_t_sketch_fans, aJ T 6 t_sketch_fans1), (h_t_sketch_near, aI T 6 t_sketch_near1)] ∧ post r t_allBits1 t_firstOrder1 t_isBeaten1 t_isStudy1 t_isTest1 t_least1 t_nodes1 t_order1 t_seen1 t_stillEdges1 t_symmetries1 t_sketch_colours1 t_sketch_darks1 t_sketch_nodes1 t_sketch_fans1 t_sketch_near1) := by
  refine xI_of (ty := .int) (by decide +kernel) (Nat.le_of_ble_eq_true rfl) rfl ?_
  intro G X hret
  change G 0 0 0 [(0, .ref h_t), (1, .int p1), (2, .int p2)] [] [(h_t, .inr (1, [.ref h_t_sketch, .int t_nodes, .int t_allBits, .int t_isTest, .int t_isBeaten, .int t_isStudy, .long t_order, .int t_least, .int t_symmetries, .long t_firstOrder, .long t_seen, .int t_stillEdges])), (h_t_sketch, .inr (6, [.ref h_t_sketch_near, .ref h_t_sketch_fans, .int t_sketch_nodes, .int t_sketch_darks, .long t_sketch_colours])), (h_t_sketch_fans, aJ T 6 t_sketch_fans), (h_t_sketch_near, aI T 6 t_sketch_near)]
  unfold F_X2_lastNodes at h
  refine x_aload_n X dX2_lastNodes_0 0 rfl ?_
  refine x_iload_n X dX2_lastNodes_1 1 rfl ?_
  refine x_iload_n X dX2_lastNodes_2 2 rfl ?_
  refine x_callVV (av := [.int p1, .int p2]) (st := []) (wr := []) X (c_X2_study l D T h_t h_t_sketch h_t_sketch_near h_t_sketch_fans t_allBits t_firstOrder t_isBeaten t_isStudy t_isTest t_least t_nodes t_order t_seen t_stillEdges t_symmetries t_sketch_colours t_sketch_darks t_sketch_nodes t_sketch_fans t_sketch_near p1 p2 _ h) yk_X2_study tw_921 dX2_lastNodes_3 0 rfl rfl [0, 1, 2, 3] [] rfl rfl rfl rfl (by decide) rfl rfl (Nat.le_of_ble_eq_true rfl) (Nat.le_of_ble_eq_true rfl) (Nat.le_of_ble_eq_true rfl) (Nat.zero_le _) (Nat.zero_le _) (fun w1 hw => ?_)
  obtain ⟨t_allBits_3, t_firstOrder_3, t_isBeaten_3, t_isStudy_3, t_isTest_3, t_least_3, t_nodes_3, t_order_3, t_seen_3, t_stillEdges_3, t_symmetries_3, t_sketch_colours_3, t_sketch_darks_3, t_sketch_nodes_3, t_sketch_fans_3, t_sketch_near_3, rfl, h⟩ := hw
  refine x_perm (ws2 := [(h_t, .inr (1, [.ref h_t_sketch, .int t_nodes_3, .int t_allBits_3, .int t_isTest_3, .int t_isBeaten_3, .int t_isStudy_3, .long t_order_3, .int t_least_3, .int t_symmetries_3, .long t_firstOrder_3, .long t_seen_3, .int t_stillEdges_3])), (h_t_sketch, .inr (6, [.ref h_t_sketch_near, .ref h_t_sketch_fans, .int t_sketch_nodes_3, .int t_sketch_darks_3, .long t_sketch_colours_3])), (h_t_sketch_fans, aJ T 6 t_sketch_fans_3), (h_t_sketch_near, aI T 6 t_sketch_near_3)]) X [0, 1, 2, 3] rfl rfl ?_
  refine x_aload_n X dX2_lastNodes_6 0 rfl ?_
  refine x_aload_n X dX2_lastNodes_7 0 rfl ?_
  refine x_get X inGX2 1 (by decide) rfl tw_234 dX2_lastNodes_8 rfl 0 rfl rfl ?_
  refine x_iconst (v := 1) X dX2_lastNodes_11 (by decide) ?_
  refine x_isub X dX2_lastNodes_12 ?_
  refine x_callVI (av := [.int (t_nodes_3 - (1 : Int32))]) (st := []) (wr := [(h_t_sketch, .inr (6, [.ref h_t_sketch_near, .ref h_t_sketch_fans, .int t_sketch_nodes_3, .int t_sketch_darks_3, .long t_sketch_colours_3])), (h_t_sketch_fans, aJ T 6 t_sketch_fans_3), (h_t_sketch_near, aI T 6 t_sketch_near_3)]) X (c_X2_seenAt l D T h_t h_t_sketch t_allBits_3 t_firstOrder_3 t_isBeaten_3 t_isStudy_3 t_isTest_3 t_least_3 t_nodes_3 t_order_3 t_seen_3 t_stillEdges_3 t_symmetries_3 (t_nodes_3 - (1 : Int32)) _ h) yk_X2_seenAt tw_929 dX2_lastNodes_13 0 rfl rfl [0] [1, 2, 3] rfl rfl rfl rfl (by decide) rfl rfl (Nat.le_of_ble_eq_true rfl) (Nat.le_of_ble_eq_true rfl) (Nat.le_of_ble_eq_true rfl) (Nat.zero_le _) (Nat.zero_le _) (fun r13 w1 hw => ?_)
  obtain ⟨rfl, h⟩ := hw
  refine x_perm (ws2 := [(h_t, .inr (1, [.ref h_t_sketch, .int t_nodes_3, .int t_allBits_3, .int t_isTest_3, .int t_isBeaten_3, .int t_isStudy_3, .long t_order_3, .int t_least_3, .int t_symmetries_3, .long t_firstOrder_3, .long t_seen_3, .int t_stillEdges_3])), (h_t_sketch, .inr (6, [.ref h_t_sketch_near, .ref h_t_sketch_fans, .int t_sketch_nodes_3, .int t_sketch_darks_3, .long t_sketch_colours_3])), (h_t_sketch_fans, aJ T 6 t_sketch_fans_3), (h_t_sketch_near, aI T 6 t_sketch_near_3)]) X [3, 0, 1, 2] rfl rfl ?_
  exact hret _ _ _ _ dX2_lastNodes_16 rfl ⟨t_allBits_3, t_firstOrder_3, t_isBeaten_3, t_isStudy_3, t_isTest_3, t_least_3, t_nodes_3, t_order_3, t_seen_3, t_stillEdges_3, t_symmetries_3, t_sketch_colours_3, t_sketch_darks_3, t_sketch_nodes_3, t_sketch_fans_3, t_sketch_near_3, rfl, h⟩
theorem dX2_unlikeEdges_0 : decode cX2_unlikeEdges 0 = .ok (.aload_n 0, 1) := by decide +kernel
theorem dX2_unlikeEdges_1 : decode cX2_unlikeEdges 1 = .ok (.iload_n 1, 1) := by decide +kernel
theorem dX2_unlikeEdges_2 : decode cX2_unlikeEdges 2 = .ok (.iload_n 2, 1) := by decide +kernel
theorem dX2_unlikeEdges_3 : decode cX2_unlikeEdges 3 = .ok (.invokevirtual 58, 3) := by decide +kernel
theorem dX2_unlikeEdges_6 : decode cX2_unlikeEdges 6 = .ok (.aload_n 0, 1) := by decide +kernel
theorem dX2_unlikeEdges_7 : decode cX2_unlikeEdges 7 = .ok (.getfield 43, 3) := by decide +kernel
theorem dX2_unlikeEdges_10 : decode cX2_unlikeEdges 10 = .ok (.ifCond .le 15, 3) := by decide +kernel
theorem dX2_unlikeEdges_13 : decode cX2_unlikeEdges 13 = .ok (.aload_n 0, 1) := by decide +kernel
theorem dX2_unlikeEdges_14 : decode cX2_unlikeEdges 14 = .ok (.getfield 70, 3) := by decide +kernel
theorem dX2_unlikeEdges_17 : decode cX2_unlikeEdges 17 = .ok (.aload_n 0, 1) := by decide +kernel
theorem dX2_unlikeEdges_18 : decode cX2_unlikeEdges 18 = .ok (.getfield 43, 3) := by decide +kernel
theorem dX2_unlikeEdges_21 : decode cX2_unlikeEdges 21 = .ok (.idiv, 1) := by decide +kernel
theorem dX2_unlikeEdges_22 : decode cX2_unlikeEdges 22 = .ok (.goto 4, 3) := by decide +kernel
theorem dX2_unlikeEdges_25 : decode cX2_unlikeEdges 25 = .ok (.iconst 0, 1) := by decide +kernel
theorem dX2_unlikeEdges_26 : decode cX2_unlikeEdges 26 = .ok (.ireturn, 1) := by decide +kernel
set_option maxHeartbeats 4000000 in
set_option maxRecDepth 100000 in
theorem c_X2_unlikeEdges (l : Launch) (D : eD) (T : Nat → ClassId) (h_t h_t_sketch h_t_sketch_near h_t_sketch_fans : Nat) (t_allBits : Int32) (t_firstOrder : Int64) (t_isBeaten : Int32) (t_isStudy : Int32) (t_isTest : Int32) (t_least : Int32) (t_nodes : Int32) (t_order : Int64) (t_seen : Int64) (t_stillEdges : Int32) (t_symmetries : Int32) (t_sketch_colours : Int64) (t_sketch_darks : Int32) (t_sketch_nodes : Int32) (t_sketch_fans : Nat → Int64) (t_sketch_near : Nat → Int32) (p1 : Int32) (p2 : Int32) (post : Int32 → Int32 → Int64 → Int32 → Int32 → Int32 → Int32 → Int32 → Int64 → Int64 → Int32 → Int32 → Int64 → Int32 → Int32 → (Nat → Int64) → (Nat → Int32) → Prop) (h : F_X2_unlikeEdges t_allBits t_firstOrder t_isBeaten t_isStudy t_isTest t_least t_nodes t_order t_seen t_stillEdges t_symmetries t_sketch_colours t_sketch_darks t_sketch_nodes t_sketch_fans t_sketch_near p1 p2 post) : cI l D T yX2_unlikeEdges cX2_unlikeEdges 3 (some .int) 33 854 0 0 [.ref h_t, .int p1, .int p2] [(h_t, .inr (1, [.ref h_t_sketch, .int t_nodes, .int t_allBits, .int t_isTest, .int t_isBeaten, .int t_isStudy, .long t_order, .int t_least, .int t_symmetries, .long t_firstOrder, .long t_seen, .int t_stillEdges])), (h_t_sketch, .inr (6, [.ref h_t_sketch_near, .ref h_t_sketch_fans, .int t_sketch_nodes, .int t_sketch_darks, .long t_sketch_colours])), (h_t_sketch_fans, aJ T 6 t_sketch_fans), (h_t_sketch_near, aI T 6 t_sketch_near)] (fun r w1 => ∃ (t_allBits1 : Int32) (t_firstOrder1 : Int64) (t_isBeaten1 : Int32) (t_isStudy1 : Int32) (t_isTest1 : Int32) (t_least1 : Int32) (t_nodes1 : Int32) (t_order1 : Int64) (t_seen1 : Int64) (t_stillEdges1 : Int32) (t_symmetries1 : Int32) (t_sketch_colours1 : Int64) (t_sketch_darks1 : Int32) (t_sketch_nodes1 : Int32) (t_sketch_fans1 : Nat → Int64) (t_sketch_near1 : Nat → Int32), w1 = [(h_t, .inr (1, [.ref h_t_sketch, .int t_nodes1, .int t_allBits1, .int t_isTest1, .int t_isBeaten1, .int t_isStudy1, .long t_order1, .int t_least1, .int t_symmetries1, .long t_firstOrder1, .long t_seen1, .int t_stillEdges1])), (h_t_sketch, .inr (6, [.ref h_t_sketch_near, .ref h_t_sketch_fans, .int t_sketch_nodes1, .int t_sketch_darks1, .long t_sketch_colours1])), (h_t_sketch_fans, aJ T 6 t_sketch_fans1), (h_t_sketch_near, aI T 6 t_sketch_near1)] ∧ post r t_allBits1 t_firstOrder1 t_isBeaten1 t_isStudy1 t_isTest1 t_least1 t_nodes1 t_order1 t_seen1 t_stillEdges1 t_symmetries1 t_sketch_colours1 t_sketch_darks1 t_sketch_nodes1 t_sketch_fans1 t_sketch_near1) := by
  refine xI_of (ty := .int) (by decide +kernel) (Nat.le_of_ble_eq_true rfl) rfl ?_
  intro G X hret
  change G 0 0 0 [(0, .ref h_t), (1, .int p1), (2, .int p2)] [] [(h_t, .inr (1, [.ref h_t_sketch, .int t_nodes, .int t_allBits, .int t_isTest, .int t_isBeaten, .int t_isStudy, .long t_order, .int t_least, .int t_symmetries, .long t_firstOrder, .long t_seen, .int t_stillEdges])), (h_t_sketch, .inr (6, [.ref h_t_sketch_near, .ref h_t_sketch_fans, .int t_sketch_nodes, .int t_sketch_darks, .long t_sketch_colours])), (h_t_sketch_fans, aJ T 6 t_sketch_fans), (h_t_sketch_near, aI T 6 t_sketch_near)]
  unfold F_X2_unlikeEdges at h
  have k26 : ∀ (s0 : Int32) (t_allBits : Int32) (t_firstOrder : Int64) (t_isBeaten : Int32) (t_isStudy : Int32) (t_isTest : Int32) (t_least : Int32) (t_nodes : Int32) (t_order : Int64) (t_seen : Int64) (t_stillEdges : Int32) (t_symmetries : Int32) (t_sketch_colours : Int64) (t_sketch_darks : Int32) (t_sketch_nodes : Int32) (t_sketch_fans : Nat → Int64) (t_sketch_near : Nat → Int32), F_X2_unlikeEdges_26 post s0 t_allBits t_firstOrder t_isBeaten t_isStudy t_isTest t_least t_nodes t_order t_seen t_stillEdges t_symmetries t_sketch_colours t_sketch_darks t_sketch_nodes t_sketch_fans t_sketch_near → G 0 0 26 [] [.int s0] [(h_t, .inr (1, [.ref h_t_sketch, .int t_nodes, .int t_allBits, .int t_isTest, .int t_isBeaten, .int t_isStudy, .long t_order, .int t_least, .int t_symmetries, .long t_firstOrder, .long t_seen, .int t_stillEdges])), (h_t_sketch, .inr (6, [.ref h_t_sketch_near, .ref h_t_sketch_fans, .int t_sketch_nodes, .int t_sketch_darks, .long t_sketch_colours])), (h_t_sketch_fans, aJ T 6 t_sketch_fans), (h_t_sketch_near, aI T 6 t_sketch_near)] := by
    intro s0 t_allBits t_firstOrder t_isBeaten t_isStudy t_isTest t_least t_nodes t_order t_seen t_stillEdges t_symmetries t_sketch_colours t_sketch_darks t_sketch_nodes t_sketch_fans t_sketch_near h
    unfold F_X2_unlikeEdges_26 at h
    exact hret _ _ _ _ dX2_unlikeEdges_26 rfl ⟨t_allBits, t_firstOrder, t_isBeaten, t_isStudy, t_isTest, t_least, t_nodes, t_order, t_seen, t_stillEdges, t_symmetries, t_sketch_colours, t_sketch_darks, t_sketch_nodes, t_sketch_fans, t_sketch_near, rfl, h⟩
  refine x_aload_n X dX2_unlikeEdges_0 0 rfl ?_
  refine x_iload_n X dX2_unlikeEdges_1 1 rfl ?_
  refine x_iload_n X dX2_unlikeEdges_2 2 rfl ?_
  refine x_callVV (av := [.int p1, .int p2]) (st := []) (wr := []) X (c_X2_study l D T h_t h_t_sketch h_t_sketch_near h_t_sketch_fans t_allBits t_firstOrder t_isBeaten t_isStudy t_isTest t_least t_nodes t_order t_seen t_stillEdges t_symmetries t_sketch_colours t_sketch_darks t_sketch_nodes t_sketch_fans t_sketch_near p1 p2 _ h) yk_X2_study tw_921 dX2_unlikeEdges_3 0 rfl rfl [0, 1, 2, 3] [] rfl rfl rfl rfl (by decide) rfl rfl (Nat.le_of_ble_eq_true rfl) (Nat.le_of_ble_eq_true rfl) (Nat.le_of_ble_eq_true rfl) (Nat.zero_le _) (Nat.zero_le _) (fun w1 hw => ?_)
  obtain ⟨t_allBits_3, t_firstOrder_3, t_isBeaten_3, t_isStudy_3, t_isTest_3, t_least_3, t_nodes_3, t_order_3, t_seen_3, t_stillEdges_3, t_symmetries_3, t_sketch_colours_3, t_sketch_darks_3, t_sketch_nodes_3, t_sketch_fans_3, t_sketch_near_3, rfl, h⟩ := hw
  refine x_perm (ws2 := [(h_t, .inr (1, [.ref h_t_sketch, .int t_nodes_3, .int t_allBits_3, .int t_isTest_3, .int t_isBeaten_3, .int t_isStudy_3, .long t_order_3, .int t_least_3, .int t_symmetries_3, .long t_firstOrder_3, .long t_seen_3, .int t_stillEdges_3])), (h_t_sketch, .inr (6, [.ref h_t_sketch_near, .ref h_t_sketch_fans, .int t_sketch_nodes_3, .int t_sketch_darks_3, .long t_sketch_colours_3])), (h_t_sketch_fans, aJ T 6 t_sketch_fans_3), (h_t_sketch_near, aI T 6 t_sketch_near_3)]) X [0, 1, 2, 3] rfl rfl ?_
  refine x_aload_n X dX2_unlikeEdges_6 0 rfl ?_
  refine x_get X inGX2 8 (by decide) rfl tw_243 dX2_unlikeEdges_7 rfl 0 rfl rfl ?_
  refine x_if_le (tgt := 25) X dX2_unlikeEdges_10 (by decide) (fun hc => ?_) (fun hc => ?_)
  · have h := h.1 hc
    refine x_iconst (v := 0) X dX2_unlikeEdges_25 (by decide) ?_
    exact x_sub X [] rfl (k26 (0 : Int32) t_allBits_3 t_firstOrder_3 t_isBeaten_3 t_isStudy_3 t_isTest_3 t_least_3 t_nodes_3 t_order_3 t_seen_3 t_stillEdges_3 t_symmetries_3 t_sketch_colours_3 t_sketch_darks_3 t_sketch_nodes_3 t_sketch_fans_3 t_sketch_near_3 h)
  · have h := h.2 hc
    refine x_aload_n X dX2_unlikeEdges_13 0 rfl ?_
    refine x_get X inGX2 11 (by decide) rfl tw_248 dX2_unlikeEdges_14 rfl 0 rfl rfl ?_
    refine x_aload_n X dX2_unlikeEdges_17 0 rfl ?_
    refine x_get X inGX2 8 (by decide) rfl tw_243 dX2_unlikeEdges_18 rfl 0 rfl rfl ?_
    obtain ⟨hne, h⟩ := h
    refine x_idiv X dX2_unlikeEdges_21 hne ?_
    refine x_goto (tgt := 26) X dX2_unlikeEdges_22 (by decide) ?_
    exact x_sub X [] rfl (k26 (t_stillEdges_3 / t_symmetries_3) t_allBits_3 t_firstOrder_3 t_isBeaten_3 t_isStudy_3 t_isTest_3 t_least_3 t_nodes_3 t_order_3 t_seen_3 t_stillEdges_3 t_symmetries_3 t_sketch_colours_3 t_sketch_darks_3 t_sketch_nodes_3 t_sketch_fans_3 t_sketch_near_3 h)
