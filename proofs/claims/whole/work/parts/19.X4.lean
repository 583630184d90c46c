/-! OrderlyNets$Match: decode rows (printed), and each method kept by its F -/
theorem dX4_lay_0 : decode cX4_lay 0 = .ok (.aload_n 0, 1) := by decide +kernel
theorem dX4_lay_1 : decode cX4_lay 1 = .ok (.iload_n 2, 1) := by decide +kernel
theorem dX4_lay_2 : decode cX4_lay 2 = .ok (.iconst 1, 1) := by decide +kernel
theorem dX4_lay_3 : decode cX4_lay 3 = .ok (.iadd, 1) := by decide +kernel
theorem dX4_lay_4 : decode cX4_lay 4 = .ok (.iload_n 3, 1) := by decide +kernel
theorem dX4_lay_5 : decode cX4_lay 5 = .ok (.iconst 1, 1) := by decide +kernel
theorem dX4_lay_6 : decode cX4_lay 6 = .ok (.iload_n 1, 1) := by decide +kernel
theorem dX4_lay_7 : decode cX4_lay 7 = .ok (.ishl, 1) := by decide +kernel
theorem dX4_lay_8 : decode cX4_lay 8 = .ok (.ior, 1) := by decide +kernel
theorem dX4_lay_9 : decode cX4_lay 9 = .ok (.iload 4, 2) := by decide +kernel
theorem dX4_lay_11 : decode cX4_lay 11 = .ok (.lload 5, 2) := by decide +kernel
theorem dX4_lay_13 : decode cX4_lay 13 = .ok (.iconst 1, 1) := by decide +kernel
theorem dX4_lay_14 : decode cX4_lay 14 = .ok (.lshl, 1) := by decide +kernel
theorem dX4_lay_15 : decode cX4_lay 15 = .ok (.aload_n 0, 1) := by decide +kernel
theorem dX4_lay_16 : decode cX4_lay 16 = .ok (.getfield 18, 3) := by decide +kernel
theorem dX4_lay_19 : decode cX4_lay 19 = .ok (.iload_n 1, 1) := by decide +kernel
theorem dX4_lay_20 : decode cX4_lay 20 = .ok (.invokevirtual 66, 3) := by decide +kernel
theorem dX4_lay_23 : decode cX4_lay 23 = .ok (.lor, 1) := by decide +kernel
theorem dX4_lay_24 : decode cX4_lay 24 = .ok (.invokevirtual 42, 3) := by decide +kernel
theorem dX4_lay_27 : decode cX4_lay 27 = .ok (.return_, 1) := by decide +kernel
set_option maxHeartbeats 4000000 in
set_option maxRecDepth 100000 in
theorem c_X4_lay (l : Launch) (D : eD) (T : Nat → ClassId) (h_t h_t_one h_t_two h_t_one_near h_t_one_fans h_t_two_near h_t_two_fans : Nat) (FA : Int32 → Int32 → Int32 → (Nat → Int64) → Int32 → Int32 → Int32 → Int32 → Int64 → (Int32 → Prop) → Prop) (fA lA : Nat) (ih : ∀ (t_best : Int32) (t_code : Int32) (t_one_colours : Int64) (t_one_darks : Int32) (t_one_nodes : Int32) (t_two_colours : Int64) (t_two_darks : Int32) (t_two_nodes : Int32) (t_two_fans : Nat → Int64) (p1 : Int32) (p2 : Int32) (p3 : Int32) (p4 : Int64) (post : Int32 → Prop), FA t_code t_one_nodes t_two_nodes t_two_fans t_best p1 p2 p3 p4 post → cV l D T yX4_layNext cX4_layNext 11 none fA lA 0 0 [.ref h_t, .int p1, .int p2, .int p3, .long p4] [(h_t, .inr (3, [.ref h_t_one, .ref h_t_two, .int t_code, .int t_best])), (h_t_one, .inr (6, [.ref h_t_one_near, .ref h_t_one_fans, .int t_one_nodes, .int t_one_darks, .long t_one_colours])), (h_t_two, .inr (6, [.ref h_t_two_near, .ref h_t_two_fans, .int t_two_nodes, .int t_two_darks, .long t_two_colours])), (h_t_two_fans, aJ T 6 t_two_fans)] (fun w1 => ∃ (t_best1 : Int32), w1 = [(h_t, .inr (3, [.ref h_t_one, .ref h_t_two, .int t_code, .int t_best1])), (h_t_one, .inr (6, [.ref h_t_one_near, .ref h_t_one_fans, .int t_one_nodes, .int t_one_darks, .long t_one_colours])), (h_t_two, .inr (6, [.ref h_t_two_near, .ref h_t_two_fans, .int t_two_nodes, .int t_two_darks, .long t_two_colours])), (h_t_two_fans, aJ T 6 t_two_fans)] ∧ post t_best1)) (t_best : Int32) (t_code : Int32) (t_one_colours : Int64) (t_one_darks : Int32) (t_one_nodes : Int32) (t_two_colours : Int64) (t_two_darks : Int32) (t_two_nodes : Int32) (t_two_fans : Nat → Int64) (p1 : Int32) (p2 : Int32) (p3 : Int32) (p4 : Int32) (p5 : Int64) (post : Int32 → Prop) (h : F_X4_lay FA t_code t_one_nodes t_two_nodes t_two_fans t_best p1 p2 p3 p4 p5 post) : cV l D T yX4_lay cX4_lay 7 none (fA + 2) (lA + 51) 0 0 [.ref h_t, .int p1, .int p2, .int p3, .int p4, .long p5] [(h_t, .inr (3, [.ref h_t_one, .ref h_t_two, .int t_code, .int t_best])), (h_t_one, .inr (6, [.ref h_t_one_near, .ref h_t_one_fans, .int t_one_nodes, .int t_one_darks, .long t_one_colours])), (h_t_two, .inr (6, [.ref h_t_two_near, .ref h_t_two_fans, .int t_two_nodes, .int t_two_darks, .long t_two_colours])), (h_t_two_fans, aJ T 6 t_two_fans)] (fun w1 => ∃ (t_best1 : Int32), w1 = [(h_t, .inr (3, [.ref h_t_one, .ref h_t_two, .int t_code, .int t_best1])), (h_t_one, .inr (6, [.ref h_t_one_near, .ref h_t_one_fans, .int t_one_nodes, .int t_one_darks, .long t_one_colours])), (h_t_two, .inr (6, [.ref h_t_two_near, .ref h_t_two_fans, .int t_two_nodes, .int t_two_darks, .long t_two_colours])), (h_t_two_fans, aJ T 6 t_two_fans)] ∧ post t_best1) := by
  refine xV_of (by decide +kernel) (Nat.le_of_ble_eq_true rfl) rfl ?_
  intro G X hret
  change G 0 0 0 [(0, .ref h_t), (1, .int p1), (2, .int p2), (3, .int p3), (4, .int p4), (5, .long p5)] [] [(h_t, .inr (3, [.ref h_t_one, .ref h_t_two, .int t_code, .int t_best])), (h_t_one, .inr (6, [.ref h_t_one_near, .ref h_t_one_fans, .int t_one_nodes, .int t_one_darks, .long t_one_colours])), (h_t_two, .inr (6, [.ref h_t_two_near, .ref h_t_two_fans, .int t_two_nodes, .int t_two_darks, .long t_two_colours])), (h_t_two_fans, aJ T 6 t_two_fans)]
  unfold F_X4_lay at h
  refine x_aload_n X dX4_lay_0 0 rfl ?_
  refine x_iload_n X dX4_lay_1 2 rfl ?_
  refine x_iconst (v := 1) X dX4_lay_2 (by decide) ?_
  refine x_iadd X dX4_lay_3 ?_
  refine x_iload_n X dX4_lay_4 3 rfl ?_
  refine x_iconst (v := 1) X dX4_lay_5 (by decide) ?_
  refine x_iload_n X dX4_lay_6 1 rfl ?_
  refine x_ishl X dX4_lay_7 ?_
  refine x_ior X dX4_lay_8 ?_
  refine x_iload X dX4_lay_9 4 rfl ?_
  refine x_lload X dX4_lay_11 5 rfl ?_
  refine x_iconst (v := 1) X dX4_lay_13 (by decide) ?_
  refine x_lshl X dX4_lay_14 ?_
  refine x_aload_n X dX4_lay_15 0 rfl ?_
  refine x_get X inGX4 1 (by decide) rfl tw_285 dX4_lay_16 rfl 0 rfl rfl ?_
  refine x_iload_n X dX4_lay_19 1 rfl ?_
  refine x_callVJ (av := [.int p1]) (st := [.long (p5 <<< ((1 : Int32).toInt64 &&& 63)), .int p4, .int (p3 ||| ((1 : Int32) <<< (p1 &&& 31))), .int (p2 + (1 : Int32)), .ref h_t]) (wr := [(h_t, .inr (3, [.ref h_t_one, .ref h_t_two, .int t_code, .int t_best])), (h_t_one, .inr (6, [.ref h_t_one_near, .ref h_t_one_fans, .int t_one_nodes, .int t_one_darks, .long t_one_colours]))]) X (c_X7_fan l D T h_t_two h_t_two_near h_t_two_fans t_two_colours t_two_darks t_two_nodes t_two_fans p1 _ h) yk_X7_fan tw_1119 dX4_lay_20 2 rfl rfl [2, 3] [0, 1] rfl rfl rfl rfl (by decide) rfl rfl (Nat.le_of_ble_eq_true rfl) (by dsimp only [eR]; omega) (by dsimp only [eR]; omega) (Nat.zero_le _) (Nat.zero_le _) (fun r20 w1 hw => ?_)
  obtain ⟨rfl, h⟩ := hw
  refine x_perm (ws2 := [(h_t, .inr (3, [.ref h_t_one, .ref h_t_two, .int t_code, .int t_best])), (h_t_one, .inr (6, [.ref h_t_one_near, .ref h_t_one_fans, .int t_one_nodes, .int t_one_darks, .long t_one_colours])), (h_t_two, .inr (6, [.ref h_t_two_near, .ref h_t_two_fans, .int t_two_nodes, .int t_two_darks, .long t_two_colours])), (h_t_two_fans, aJ T 6 t_two_fans)]) X [0, 1, 2, 3] rfl rfl ?_
  refine x_lor X dX4_lay_23 ?_
  refine x_callVV (av := [.int (p2 + (1 : Int32)), .int (p3 ||| ((1 : Int32) <<< (p1 &&& 31))), .int p4, .long ((p5 <<< ((1 : Int32).toInt64 &&& 63)) ||| r20)]) (st := []) (wr := []) X (ih t_best t_code t_one_colours t_one_darks t_one_nodes t_two_colours t_two_darks t_two_nodes t_two_fans (p2 + (1 : Int32)) (p3 ||| ((1 : Int32) <<< (p1 &&& 31))) p4 ((p5 <<< ((1 : Int32).toInt64 &&& 63)) ||| r20) _ h) yk_X4_layNext tw_1108 dX4_lay_24 0 rfl rfl [0, 1, 2, 3] [] rfl rfl rfl rfl (by decide) rfl rfl (Nat.le_of_ble_eq_true rfl) (by dsimp only [eR]; omega) (by dsimp only [eR]; omega) (Nat.zero_le _) (Nat.zero_le _) (fun w1 hw => ?_)
  obtain ⟨t_best_24, rfl, h⟩ := hw
  refine x_perm (ws2 := [(h_t, .inr (3, [.ref h_t_one, .ref h_t_two, .int t_code, .int t_best_24])), (h_t_one, .inr (6, [.ref h_t_one_near, .ref h_t_one_fans, .int t_one_nodes, .int t_one_darks, .long t_one_colours])), (h_t_two, .inr (6, [.ref h_t_two_near, .ref h_t_two_fans, .int t_two_nodes, .int t_two_darks, .long t_two_colours])), (h_t_two_fans, aJ T 6 t_two_fans)]) X [0, 1, 2, 3] rfl rfl ?_
  exact hret _ _ _ dX4_lay_27 ⟨t_best_24, rfl, h⟩
theorem dX4_layNext_0 : decode cX4_layNext 0 = .ok (.iload_n 3, 1) := by decide +kernel
theorem dX4_layNext_1 : decode cX4_layNext 1 = .ok (.aload_n 0, 1) := by decide +kernel
theorem dX4_layNext_2 : decode cX4_layNext 2 = .ok (.getfield 35, 3) := by decide +kernel
theorem dX4_layNext_5 : decode cX4_layNext 5 = .ok (.if_icmp .lt 4, 3) := by decide +kernel
theorem dX4_layNext_8 : decode cX4_layNext 8 = .ok (.return_, 1) := by decide +kernel
theorem dX4_layNext_9 : decode cX4_layNext 9 = .ok (.iload_n 1, 1) := by decide +kernel
theorem dX4_layNext_10 : decode cX4_layNext 10 = .ok (.aload_n 0, 1) := by decide +kernel
theorem dX4_layNext_11 : decode cX4_layNext 11 = .ok (.getfield 12, 3) := by decide +kernel
theorem dX4_layNext_14 : decode cX4_layNext 14 = .ok (.getfield 46, 3) := by decide +kernel
theorem dX4_layNext_17 : decode cX4_layNext 17 = .ok (.if_icmp .lt 9, 3) := by decide +kernel
theorem dX4_layNext_20 : decode cX4_layNext 20 = .ok (.aload_n 0, 1) := by decide +kernel
theorem dX4_layNext_21 : decode cX4_layNext 21 = .ok (.iload_n 3, 1) := by decide +kernel
theorem dX4_layNext_22 : decode cX4_layNext 22 = .ok (.putfield 35, 3) := by decide +kernel
theorem dX4_layNext_25 : decode cX4_layNext 25 = .ok (.return_, 1) := by decide +kernel
theorem dX4_layNext_26 : decode cX4_layNext 26 = .ok (.aload_n 0, 1) := by decide +kernel
theorem dX4_layNext_27 : decode cX4_layNext 27 = .ok (.getfield 12, 3) := by decide +kernel
theorem dX4_layNext_30 : decode cX4_layNext 30 = .ok (.getfield 46, 3) := by decide +kernel
theorem dX4_layNext_33 : decode cX4_layNext 33 = .ok (.invokestatic 49, 3) := by decide +kernel
theorem dX4_layNext_36 : decode cX4_layNext 36 = .ok (.iload_n 1, 1) := by decide +kernel
theorem dX4_layNext_37 : decode cX4_layNext 37 = .ok (.iconst 1, 1) := by decide +kernel
theorem dX4_layNext_38 : decode cX4_layNext 38 = .ok (.iadd, 1) := by decide +kernel
theorem dX4_layNext_39 : decode cX4_layNext 39 = .ok (.invokestatic 49, 3) := by decide +kernel
theorem dX4_layNext_42 : decode cX4_layNext 42 = .ok (.isub, 1) := by decide +kernel
theorem dX4_layNext_43 : decode cX4_layNext 43 = .ok (.istore 6, 2) := by decide +kernel
theorem dX4_layNext_45 : decode cX4_layNext 45 = .ok (.aload_n 0, 1) := by decide +kernel
theorem dX4_layNext_46 : decode cX4_layNext 46 = .ok (.getfield 31, 3) := by decide +kernel
theorem dX4_layNext_49 : decode cX4_layNext 49 = .ok (.iload 6, 2) := by decide +kernel
theorem dX4_layNext_51 : decode cX4_layNext 51 = .ok (.ishr, 1) := by decide +kernel
theorem dX4_layNext_52 : decode cX4_layNext 52 = .ok (.iconst 2, 1) := by decide +kernel
theorem dX4_layNext_53 : decode cX4_layNext 53 = .ok (.iload_n 1, 1) := by decide +kernel
theorem dX4_layNext_54 : decode cX4_layNext 54 = .ok (.ishl, 1) := by decide +kernel
theorem dX4_layNext_55 : decode cX4_layNext 55 = .ok (.iconst 1, 1) := by decide +kernel
theorem dX4_layNext_56 : decode cX4_layNext 56 = .ok (.isub, 1) := by decide +kernel
theorem dX4_layNext_57 : decode cX4_layNext 57 = .ok (.iand, 1) := by decide +kernel
theorem dX4_layNext_58 : decode cX4_layNext 58 = .ok (.istore 7, 2) := by decide +kernel
theorem dX4_layNext_60 : decode cX4_layNext 60 = .ok (.iconst 0, 1) := by decide +kernel
theorem dX4_layNext_61 : decode cX4_layNext 61 = .ok (.istore 8, 2) := by decide +kernel
theorem dX4_layNext_63 : decode cX4_layNext 63 = .ok (.iload 8, 2) := by decide +kernel
theorem dX4_layNext_65 : decode cX4_layNext 65 = .ok (.aload_n 0, 1) := by decide +kernel
theorem dX4_layNext_66 : decode cX4_layNext 66 = .ok (.getfield 18, 3) := by decide +kernel
theorem dX4_layNext_69 : decode cX4_layNext 69 = .ok (.getfield 46, 3) := by decide +kernel
theorem dX4_layNext_72 : decode cX4_layNext 72 = .ok (.if_icmp .ge 66, 3) := by decide +kernel
theorem dX4_layNext_75 : decode cX4_layNext 75 = .ok (.iload 7, 2) := by decide +kernel
theorem dX4_layNext_77 : decode cX4_layNext 77 = .ok (.lload 4, 2) := by decide +kernel
theorem dX4_layNext_79 : decode cX4_layNext 79 = .ok (.iload 8, 2) := by decide +kernel
theorem dX4_layNext_81 : decode cX4_layNext 81 = .ok (.invokestatic 53, 3) := by decide +kernel
theorem dX4_layNext_84 : decode cX4_layNext 84 = .ok (.ixor, 1) := by decide +kernel
theorem dX4_layNext_85 : decode cX4_layNext 85 = .ok (.istore 9, 2) := by decide +kernel
theorem dX4_layNext_87 : decode cX4_layNext 87 = .ok (.iload 9, 2) := by decide +kernel
theorem dX4_layNext_89 : decode cX4_layNext 89 = .ok (.iload_n 1, 1) := by decide +kernel
theorem dX4_layNext_90 : decode cX4_layNext 90 = .ok (.ishr, 1) := by decide +kernel
theorem dX4_layNext_91 : decode cX4_layNext 91 = .ok (.ifCond .ne 7, 3) := by decide +kernel
theorem dX4_layNext_94 : decode cX4_layNext 94 = .ok (.iconst 1, 1) := by decide +kernel
theorem dX4_layNext_95 : decode cX4_layNext 95 = .ok (.goto 4, 3) := by decide +kernel
theorem dX4_layNext_98 : decode cX4_layNext 98 = .ok (.iconst 0, 1) := by decide +kernel
theorem dX4_layNext_99 : decode cX4_layNext 99 = .ok (.istore 10, 2) := by decide +kernel
theorem dX4_layNext_101 : decode cX4_layNext 101 = .ok (.iload 10, 2) := by decide +kernel
theorem dX4_layNext_103 : decode cX4_layNext 103 = .ok (.ifCond .eq 29, 3) := by decide +kernel
theorem dX4_layNext_106 : decode cX4_layNext 106 = .ok (.iload_n 2, 1) := by decide +kernel
theorem dX4_layNext_107 : decode cX4_layNext 107 = .ok (.iload 8, 2) := by decide +kernel
theorem dX4_layNext_109 : decode cX4_layNext 109 = .ok (.ishr, 1) := by decide +kernel
theorem dX4_layNext_110 : decode cX4_layNext 110 = .ok (.iconst 1, 1) := by decide +kernel
theorem dX4_layNext_111 : decode cX4_layNext 111 = .ok (.iand, 1) := by decide +kernel
theorem dX4_layNext_112 : decode cX4_layNext 112 = .ok (.ifCond .ne 20, 3) := by decide +kernel
theorem dX4_layNext_115 : decode cX4_layNext 115 = .ok (.aload_n 0, 1) := by decide +kernel
theorem dX4_layNext_116 : decode cX4_layNext 116 = .ok (.iload 8, 2) := by decide +kernel
theorem dX4_layNext_118 : decode cX4_layNext 118 = .ok (.iload_n 1, 1) := by decide +kernel
theorem dX4_layNext_119 : decode cX4_layNext 119 = .ok (.iload_n 2, 1) := by decide +kernel
theorem dX4_layNext_120 : decode cX4_layNext 120 = .ok (.iload_n 3, 1) := by decide +kernel
theorem dX4_layNext_121 : decode cX4_layNext 121 = .ok (.iload 9, 2) := by decide +kernel
theorem dX4_layNext_123 : decode cX4_layNext 123 = .ok (.invokestatic 57, 3) := by decide +kernel
theorem dX4_layNext_126 : decode cX4_layNext 126 = .ok (.iadd, 1) := by decide +kernel
theorem dX4_layNext_127 : decode cX4_layNext 127 = .ok (.lload 4, 2) := by decide +kernel
theorem dX4_layNext_129 : decode cX4_layNext 129 = .ok (.invokevirtual 62, 3) := by decide +kernel
theorem dX4_layNext_132 : decode cX4_layNext 132 = .ok (.iinc 8 1, 3) := by decide +kernel
theorem dX4_layNext_135 : decode cX4_layNext 135 = .ok (.goto (-72), 3) := by decide +kernel
theorem dX4_layNext_138 : decode cX4_layNext 138 = .ok (.return_, 1) := by decide +kernel
set_option maxHeartbeats 4000000 in
set_option maxRecDepth 100000 in
theorem c_X4_layNext (l : Launch) (D : eD) (T : Nat → ClassId) (h_t h_t_one h_t_two h_t_one_near h_t_one_fans h_t_two_near h_t_two_fans : Nat) : ∀ d : Nat, ∀ (t_best : Int32) (t_code : Int32) (t_one_colours : Int64) (t_one_darks : Int32) (t_one_nodes : Int32) (t_two_colours : Int64) (t_two_darks : Int32) (t_two_nodes : Int32) (t_two_fans : Nat → Int64) (p1 : Int32) (p2 : Int32) (p3 : Int32) (p4 : Int64) (post : Int32 → Prop), F_X4_layNext d t_code t_one_nodes t_two_nodes t_two_fans t_best p1 p2 p3 p4 post → cV l D T yX4_layNext cX4_layNext 11 none (3 * d + 1) (77 * d + 22) 0 0 [.ref h_t, .int p1, .int p2, .int p3, .long p4] [(h_t, .inr (3, [.ref h_t_one, .ref h_t_two, .int t_code, .int t_best])), (h_t_one, .inr (6, [.ref h_t_one_near, .ref h_t_one_fans, .int t_one_nodes, .int t_one_darks, .long t_one_colours])), (h_t_two, .inr (6, [.ref h_t_two_near, .ref h_t_two_fans, .int t_two_nodes, .int t_two_darks, .long t_two_colours])), (h_t_two_fans, aJ T 6 t_two_fans)] (fun w1 => ∃ (t_best1 : Int32), w1 = [(h_t, .inr (3, [.ref h_t_one, .ref h_t_two, .int t_code, .int t_best1])), (h_t_one, .inr (6, [.ref h_t_one_near, .ref h_t_one_fans, .int t_one_nodes, .int t_one_darks, .long t_one_colours])), (h_t_two, .inr (6, [.ref h_t_two_near, .ref h_t_two_fans, .int t_two_nodes, .int t_two_darks, .long t_two_colours])), (h_t_two_fans, aJ T 6 t_two_fans)] ∧ post t_best1) := by
  intro d
  induction d with
  | zero =>
    intro t_best t_code t_one_colours t_one_darks t_one_nodes t_two_colours t_two_darks t_two_nodes t_two_fans p1 p2 p3 p4 post h
    exact h.elim
  | succ d ih =>
  intro t_best t_code t_one_colours t_one_darks t_one_nodes t_two_colours t_two_darks t_two_nodes t_two_fans p1 p2 p3 p4 post h
  have h : FB_X4_layNext (F_X4_layNext d) t_code t_one_nodes t_two_nodes t_two_fans t_best p1 p2 p3 p4 post := h
  generalize F_X4_layNext d = FA at h ih
  refine xV_of (by decide +kernel) (Nat.le_of_ble_eq_true rfl) rfl ?_
  intro G X hret
  change G 0 0 0 [(0, .ref h_t), (1, .int p1), (2, .int p2), (3, .int p3), (4, .long p4)] [] [(h_t, .inr (3, [.ref h_t_one, .ref h_t_two, .int t_code, .int t_best])), (h_t_one, .inr (6, [.ref h_t_one_near, .ref h_t_one_fans, .int t_one_nodes, .int t_one_darks, .long t_one_colours])), (h_t_two, .inr (6, [.ref h_t_two_near, .ref h_t_two_fans, .int t_two_nodes, .int t_two_darks, .long t_two_colours])), (h_t_two_fans, aJ T 6 t_two_fans)]
  unfold FB_X4_layNext at h
  have k63 : ∀ (n63 : Nat) (x1 : Int32) (x2 : Int32) (x3 : Int32) (x4 : Int64) (x7 : Int32) (x8 : Int32) (t_best : Int32), F_X4_layNext_63 FA t_code t_one_nodes t_two_nodes t_two_fans post n63 x1 x2 x3 x4 x7 x8 t_best → G 0 0 63 [(0, .ref h_t), (1, .int x1), (2, .int x2), (3, .int x3), (4, .long x4), (7, .int x7), (8, .int x8)] [] [(h_t, .inr (3, [.ref h_t_one, .ref h_t_two, .int t_code, .int t_best])), (h_t_one, .inr (6, [.ref h_t_one_near, .ref h_t_one_fans, .int t_one_nodes, .int t_one_darks, .long t_one_colours])), (h_t_two, .inr (6, [.ref h_t_two_near, .ref h_t_two_fans, .int t_two_nodes, .int t_two_darks, .long t_two_colours])), (h_t_two_fans, aJ T 6 t_two_fans)] := by
    intro n63
    induction n63 with
    | zero => intro x1 x2 x3 x4 x7 x8 t_best h; exact h.elim
    | succ n63 ih63 =>
      intro x1 x2 x3 x4 x7 x8 t_best h
      rw [F_X4_layNext_63] at h
      have k99 : ∀ (x1 : Int32) (x2 : Int32) (x3 : Int32) (x4 : Int64) (x7 : Int32) (x8 : Int32) (x9 : Int32) (s0 : Int32) (t_best : Int32), F_X4_layNext_99 FA t_code t_one_nodes t_two_nodes t_two_fans post (F_X4_layNext_63 FA t_code t_one_nodes t_two_nodes t_two_fans post n63) x1 x2 x3 x4 x7 x8 x9 s0 t_best → G 0 0 99 [(0, .ref h_t), (1, .int x1), (2, .int x2), (3, .int x3), (4, .long x4), (7, .int x7), (8, .int x8), (9, .int x9)] [.int s0] [(h_t, .inr (3, [.ref h_t_one, .ref h_t_two, .int t_code, .int t_best])), (h_t_one, .inr (6, [.ref h_t_one_near, .ref h_t_one_fans, .int t_one_nodes, .int t_one_darks, .long t_one_colours])), (h_t_two, .inr (6, [.ref h_t_two_near, .ref h_t_two_fans, .int t_two_nodes, .int t_two_darks, .long t_two_colours])), (h_t_two_fans, aJ T 6 t_two_fans)] := by
        intro x1 x2 x3 x4 x7 x8 x9 s0 t_best h
        unfold F_X4_layNext_99 at h
        have k132 : ∀ (x1 : Int32) (x2 : Int32) (x3 : Int32) (x4 : Int64) (x7 : Int32) (x8 : Int32) (t_best : Int32), F_X4_layNext_132 FA t_code t_one_nodes t_two_nodes t_two_fans post (F_X4_layNext_63 FA t_code t_one_nodes t_two_nodes t_two_fans post n63) x1 x2 x3 x4 x7 x8 t_best → G 0 0 132 [(0, .ref h_t), (1, .int x1), (2, .int x2), (3, .int x3), (4, .long x4), (7, .int x7), (8, .int x8)] [] [(h_t, .inr (3, [.ref h_t_one, .ref h_t_two, .int t_code, .int t_best])), (h_t_one, .inr (6, [.ref h_t_one_near, .ref h_t_one_fans, .int t_one_nodes, .int t_one_darks, .long t_one_colours])), (h_t_two, .inr (6, [.ref h_t_two_near, .ref h_t_two_fans, .int t_two_nodes, .int t_two_darks, .long t_two_colours])), (h_t_two_fans, aJ T 6 t_two_fans)] := by
          intro x1 x2 x3 x4 x7 x8 t_best h
          unfold F_X4_layNext_132 at h
          refine x_iinc (v := (x8 + 1)) (lv' := [(8, .int (x8 + 1)), (0, .ref h_t), (1, .int x1), (2, .int x2), (3, .int x3), (4, .long x4), (7, .int x7)]) X dX4_layNext_132 6 rfl rfl (by decide) rfl ?_
          refine x_goto (tgt := 63) X dX4_layNext_135 (by decide) ?_
          exact x_sub X [1, 2, 3, 4, 5, 6, 0] rfl (ih63 x1 x2 x3 x4 x7 (x8 + 1) t_best h)
        refine x_istore (lv' := [(10, .int s0), (0, .ref h_t), (1, .int x1), (2, .int x2), (3, .int x3), (4, .long x4), (7, .int x7), (8, .int x8), (9, .int x9)]) X dX4_layNext_99 (by decide) rfl ?_
        refine x_iload X dX4_layNext_101 0 rfl ?_
        refine x_if_eq (tgt := 132) X dX4_layNext_103 (by decide) (fun hc => ?_) (fun hc => ?_)
        · have h := h.1 hc
          exact x_sub X [1, 2, 3, 4, 5, 6, 7] rfl (k132 x1 x2 x3 x4 x7 x8 t_best h)
        · have h := h.2 hc
          refine x_iload_n X dX4_layNext_106 3 rfl ?_
          refine x_iload X dX4_layNext_107 7 rfl ?_
          refine x_ishr X dX4_layNext_109 ?_
          refine x_iconst (v := 1) X dX4_layNext_110 (by decide) ?_
          refine x_iand X dX4_layNext_111 ?_
          refine x_if_ne (tgt := 132) X dX4_layNext_112 (by decide) (fun hc => ?_) (fun hc => ?_)
          · have h := h.1 hc
            exact x_sub X [1, 2, 3, 4, 5, 6, 7] rfl (k132 x1 x2 x3 x4 x7 x8 t_best h)
          · have h := h.2 hc
            refine x_aload_n X dX4_layNext_115 1 rfl ?_
            refine x_iload X dX4_layNext_116 7 rfl ?_
            refine x_iload_n X dX4_layNext_118 2 rfl ?_
            refine x_iload_n X dX4_layNext_119 3 rfl ?_
            refine x_iload_n X dX4_layNext_120 4 rfl ?_
            refine x_iload X dX4_layNext_121 8 rfl ?_
            refine x_callSI (av := [.int x9]) (st := [.int x3, .int x2, .int x1, .int x8, .ref h_t]) (wr := [(h_t, .inr (3, [.ref h_t_one, .ref h_t_two, .int t_code, .int t_best])), (h_t_one, .inr (6, [.ref h_t_one_near, .ref h_t_one_fans, .int t_one_nodes, .int t_one_darks, .long t_one_colours])), (h_t_two, .inr (6, [.ref h_t_two_near, .ref h_t_two_fans, .int t_two_nodes, .int t_two_darks, .long t_two_colours])), (h_t_two_fans, aJ T 6 t_two_fans)]) X (c_J6_bitCount_0f7a4 l D T  x9 _ h) yk_J6_bitCount_0f7a4 tw_1114 dX4_layNext_123 [] [0, 1, 2, 3] rfl rfl rfl rfl (by decide) rfl rfl (Nat.le_of_ble_eq_true rfl) (by dsimp only [eR]; omega) (by dsimp only [eR]; omega) (Nat.zero_le _) (Nat.zero_le _) (fun r123 w1 hw => ?_)
            obtain ⟨rfl, h⟩ := hw
            refine x_perm (ws2 := [(h_t, .inr (3, [.ref h_t_one, .ref h_t_two, .int t_code, .int t_best])), (h_t_one, .inr (6, [.ref h_t_one_near, .ref h_t_one_fans, .int t_one_nodes, .int t_one_darks, .long t_one_colours])), (h_t_two, .inr (6, [.ref h_t_two_near, .ref h_t_two_fans, .int t_two_nodes, .int t_two_darks, .long t_two_colours])), (h_t_two_fans, aJ T 6 t_two_fans)]) X [0, 1, 2, 3] rfl rfl ?_
            refine x_iadd X dX4_layNext_126 ?_
            refine x_lload X dX4_layNext_127 5 rfl ?_
            refine x_callVV (av := [.int x8, .int x1, .int x2, .int (x3 + r123), .long x4]) (st := []) (wr := []) X (c_X4_lay l D T h_t h_t_one h_t_two h_t_one_near h_t_one_fans h_t_two_near h_t_two_fans FA (3 * d + 1) (77 * d + 22) ih t_best t_code t_one_colours t_one_darks t_one_nodes t_two_colours t_two_darks t_two_nodes t_two_fans x8 x1 x2 (x3 + r123) x4 _ h) yk_X4_lay tw_1115 dX4_layNext_129 0 rfl rfl [0, 1, 2, 3] [] rfl rfl rfl rfl (by decide) rfl rfl (Nat.le_of_ble_eq_true rfl) (by dsimp only [eR]; omega) (by dsimp only [eR]; omega) (Nat.zero_le _) (Nat.zero_le _) (fun w1 hw => ?_)
            obtain ⟨t_best_129, rfl, h⟩ := hw
            refine x_perm (ws2 := [(h_t, .inr (3, [.ref h_t_one, .ref h_t_two, .int t_code, .int t_best_129])), (h_t_one, .inr (6, [.ref h_t_one_near, .ref h_t_one_fans, .int t_one_nodes, .int t_one_darks, .long t_one_colours])), (h_t_two, .inr (6, [.ref h_t_two_near, .ref h_t_two_fans, .int t_two_nodes, .int t_two_darks, .long t_two_colours])), (h_t_two_fans, aJ T 6 t_two_fans)]) X [0, 1, 2, 3] rfl rfl ?_
            exact x_sub X [1, 2, 3, 4, 5, 6, 7] rfl (k132 x1 x2 x3 x4 x7 x8 t_best_129 h)
      refine x_iload X dX4_layNext_63 6 rfl ?_
      refine x_aload_n X dX4_layNext_65 0 rfl ?_
      refine x_get X inGX4 1 (by decide) rfl tw_285 dX4_layNext_66 rfl 0 rfl rfl ?_
      refine x_getN X inGX7 2 (by decide) rfl tw_214 dX4_layNext_69 rfl 2 rfl rfl ?_
      refine x_icmp_ge (tgt := 138) X dX4_layNext_72 (by decide) (fun hc => ?_) (fun hc => ?_)
      · have h := h.1 hc
        exact hret _ _ _ dX4_layNext_138 ⟨t_best, rfl, h⟩
      · have h := h.2 hc
        refine x_iload X dX4_layNext_75 5 rfl ?_
        refine x_lload X dX4_layNext_77 4 rfl ?_
        refine x_iload X dX4_layNext_79 6 rfl ?_
        refine x_callSI (av := [.long x4, .int x8]) (st := [.int x7]) (wr := [(h_t, .inr (3, [.ref h_t_one, .ref h_t_two, .int t_code, .int t_best])), (h_t_one, .inr (6, [.ref h_t_one_near, .ref h_t_one_fans, .int t_one_nodes, .int t_one_darks, .long t_one_colours])), (h_t_two, .inr (6, [.ref h_t_two_near, .ref h_t_two_fans, .int t_two_nodes, .int t_two_darks, .long t_two_colours])), (h_t_two_fans, aJ T 6 t_two_fans)]) X (c_X7_block l D T  x4 x8 _ h) yk_X7_block tw_1113 dX4_layNext_81 [] [0, 1, 2, 3] rfl rfl rfl rfl (by decide) rfl rfl (Nat.le_of_ble_eq_true rfl) (by dsimp only [eR]; omega) (by dsimp only [eR]; omega) (Nat.zero_le _) (Nat.zero_le _) (fun r81 w1 hw => ?_)
        obtain ⟨rfl, h⟩ := hw
        refine x_perm (ws2 := [(h_t, .inr (3, [.ref h_t_one, .ref h_t_two, .int t_code, .int t_best])), (h_t_one, .inr (6, [.ref h_t_one_near, .ref h_t_one_fans, .int t_one_nodes, .int t_one_darks, .long t_one_colours])), (h_t_two, .inr (6, [.ref h_t_two_near, .ref h_t_two_fans, .int t_two_nodes, .int t_two_darks, .long t_two_colours])), (h_t_two_fans, aJ T 6 t_two_fans)]) X [0, 1, 2, 3] rfl rfl ?_
        refine x_ixor X dX4_layNext_84 ?_
        refine x_istore (lv' := [(9, .int (x7 ^^^ r81)), (0, .ref h_t), (1, .int x1), (2, .int x2), (3, .int x3), (4, .long x4), (7, .int x7), (8, .int x8)]) X dX4_layNext_85 (by decide) rfl ?_
        refine x_iload X dX4_layNext_87 0 rfl ?_
        refine x_iload_n X dX4_layNext_89 2 rfl ?_
        refine x_ishr X dX4_layNext_90 ?_
        refine x_if_ne (tgt := 98) X dX4_layNext_91 (by decide) (fun hc => ?_) (fun hc => ?_)
        · have h := h.1 hc
          refine x_iconst (v := 0) X dX4_layNext_98 (by decide) ?_
          exact x_sub X [1, 2, 3, 4, 5, 6, 7, 0] rfl (k99 x1 x2 x3 x4 x7 x8 (x7 ^^^ r81) (0 : Int32) t_best h)
        · have h := h.2 hc
          refine x_iconst (v := 1) X dX4_layNext_94 (by decide) ?_
          refine x_goto (tgt := 99) X dX4_layNext_95 (by decide) ?_
          exact x_sub X [1, 2, 3, 4, 5, 6, 7, 0] rfl (k99 x1 x2 x3 x4 x7 x8 (x7 ^^^ r81) (1 : Int32) t_best h)
  refine x_iload_n X dX4_layNext_0 3 rfl ?_
  refine x_aload_n X dX4_layNext_1 0 rfl ?_
  refine x_get X inGX4 3 (by decide) rfl tw_287 dX4_layNext_2 rfl 0 rfl rfl ?_
  refine x_icmp_lt (tgt := 9) X dX4_layNext_5 (by decide) (fun hc => ?_) (fun hc => ?_)
  · have h := h.1 hc
    refine x_iload_n X dX4_layNext_9 1 rfl ?_
    refine x_aload_n X dX4_layNext_10 0 rfl ?_
    refine x_get X inGX4 0 (by decide) rfl tw_284 dX4_layNext_11 rfl 0 rfl rfl ?_
    refine x_getN X inGX7 2 (by decide) rfl tw_214 dX4_layNext_14 rfl 1 rfl rfl ?_
    refine x_icmp_lt (tgt := 26) X dX4_layNext_17 (by decide) (fun hc => ?_) (fun hc => ?_)
    · have h := h.1 hc
      refine x_aload_n X dX4_layNext_26 0 rfl ?_
      refine x_get X inGX4 0 (by decide) rfl tw_284 dX4_layNext_27 rfl 0 rfl rfl ?_
      refine x_getN X inGX7 2 (by decide) rfl tw_214 dX4_layNext_30 rfl 1 rfl rfl ?_
      refine x_callSI (av := [.int t_one_nodes]) (st := []) (wr := [(h_t, .inr (3, [.ref h_t_one, .ref h_t_two, .int t_code, .int t_best])), (h_t_one, .inr (6, [.ref h_t_one_near, .ref h_t_one_fans, .int t_one_nodes, .int t_one_darks, .long t_one_colours])), (h_t_two, .inr (6, [.ref h_t_two_near, .ref h_t_two_fans, .int t_two_nodes, .int t_two_darks, .long t_two_colours])), (h_t_two_fans, aJ T 6 t_two_fans)]) X (c_X0_bits l D T  t_one_nodes _ h) yk_X0_bits tw_1112 dX4_layNext_33 [] [0, 1, 2, 3] rfl rfl rfl rfl (by decide) rfl rfl (Nat.le_of_ble_eq_true rfl) (by dsimp only [eR]; omega) (by dsimp only [eR]; omega) (Nat.zero_le _) (Nat.zero_le _) (fun r33 w1 hw => ?_)
      obtain ⟨rfl, h⟩ := hw
      refine x_perm (ws2 := [(h_t, .inr (3, [.ref h_t_one, .ref h_t_two, .int t_code, .int t_best])), (h_t_one, .inr (6, [.ref h_t_one_near, .ref h_t_one_fans, .int t_one_nodes, .int t_one_darks, .long t_one_colours])), (h_t_two, .inr (6, [.ref h_t_two_near, .ref h_t_two_fans, .int t_two_nodes, .int t_two_darks, .long t_two_colours])), (h_t_two_fans, aJ T 6 t_two_fans)]) X [0, 1, 2, 3] rfl rfl ?_
      refine x_iload_n X dX4_layNext_36 1 rfl ?_
      refine x_iconst (v := 1) X dX4_layNext_37 (by decide) ?_
      refine x_iadd X dX4_layNext_38 ?_
      refine x_callSI (av := [.int (p1 + (1 : Int32))]) (st := [.int r33]) (wr := [(h_t, .inr (3, [.ref h_t_one, .ref h_t_two, .int t_code, .int t_best])), (h_t_one, .inr (6, [.ref h_t_one_near, .ref h_t_one_fans, .int t_one_nodes, .int t_one_darks, .long t_one_colours])), (h_t_two, .inr (6, [.ref h_t_two_near, .ref h_t_two_fans, .int t_two_nodes, .int t_two_darks, .long t_two_colours])), (h_t_two_fans, aJ T 6 t_two_fans)]) X (c_X0_bits l D T  (p1 + (1 : Int32)) _ h) yk_X0_bits tw_1112 dX4_layNext_39 [] [0, 1, 2, 3] rfl rfl rfl rfl (by decide) rfl rfl (Nat.le_of_ble_eq_true rfl) (by dsimp only [eR]; omega) (by dsimp only [eR]; omega) (Nat.zero_le _) (Nat.zero_le _) (fun r39 w1 hw => ?_)
      obtain ⟨rfl, h⟩ := hw
      refine x_perm (ws2 := [(h_t, .inr (3, [.ref h_t_one, .ref h_t_two, .int t_code, .int t_best])), (h_t_one, .inr (6, [.ref h_t_one_near, .ref h_t_one_fans, .int t_one_nodes, .int t_one_darks, .long t_one_colours])), (h_t_two, .inr (6, [.ref h_t_two_near, .ref h_t_two_fans, .int t_two_nodes, .int t_two_darks, .long t_two_colours])), (h_t_two_fans, aJ T 6 t_two_fans)]) X [0, 1, 2, 3] rfl rfl ?_
      refine x_isub X dX4_layNext_42 ?_
      refine x_istore (lv' := [(6, .int (r33 - r39)), (0, .ref h_t), (1, .int p1), (2, .int p2), (3, .int p3), (4, .long p4)]) X dX4_layNext_43 (by decide) rfl ?_
      refine x_aload_n X dX4_layNext_45 1 rfl ?_
      refine x_get X inGX4 2 (by decide) rfl tw_286 dX4_layNext_46 rfl 0 rfl rfl ?_
      refine x_iload X dX4_layNext_49 0 rfl ?_
      refine x_ishr X dX4_layNext_51 ?_
      refine x_iconst (v := 2) X dX4_layNext_52 (by decide) ?_
      refine x_iload_n X dX4_layNext_53 2 rfl ?_
      refine x_ishl X dX4_layNext_54 ?_
      refine x_iconst (v := 1) X dX4_layNext_55 (by decide) ?_
      refine x_isub X dX4_layNext_56 ?_
      refine x_iand X dX4_layNext_57 ?_
      refine x_topi X (fun x7_58 e_x7_58 => ?_)
      have h := h x7_58 e_x7_58
      refine x_istore (lv' := [(7, .int x7_58), (6, .int (r33 - r39)), (0, .ref h_t), (1, .int p1), (2, .int p2), (3, .int p3), (4, .long p4)]) X dX4_layNext_58 (by decide) rfl ?_
      refine x_iconst (v := 0) X dX4_layNext_60 (by decide) ?_
      refine x_istore (lv' := [(8, .int (0 : Int32)), (7, .int x7_58), (6, .int (r33 - r39)), (0, .ref h_t), (1, .int p1), (2, .int p2), (3, .int p3), (4, .long p4)]) X dX4_layNext_61 (by decide) rfl ?_
      obtain ⟨n63, h⟩ := h
      exact x_sub X [3, 4, 5, 6, 7, 1, 0] rfl (k63 n63 p1 p2 p3 p4 x7_58 (0 : Int32) t_best h)
    · have h := h.2 hc
      refine x_aload_n X dX4_layNext_20 0 rfl ?_
      refine x_iload_n X dX4_layNext_21 3 rfl ?_
      refine x_put (ws' := [(h_t, .inr (3, [.ref h_t_one, .ref h_t_two, .int t_code, .int p3])), (h_t_one, .inr (6, [.ref h_t_one_near, .ref h_t_one_fans, .int t_one_nodes, .int t_one_darks, .long t_one_colours])), (h_t_two, .inr (6, [.ref h_t_two_near, .ref h_t_two_fans, .int t_two_nodes, .int t_two_darks, .long t_two_colours])), (h_t_two_fans, aJ T 6 t_two_fans)]) X inGX4 tyX4_ok nmX4 3 (by decide) rfl tw_287 dX4_layNext_22 rfl rfl 0 rfl rfl rfl (Nat.le_of_ble_eq_true rfl) rfl ?_
      exact hret _ _ _ dX4_layNext_25 ⟨p3, rfl, h⟩
  · have h := h.2 hc
    exact hret _ _ _ dX4_layNext_8 ⟨t_best, rfl, h⟩
theorem dX4_fewestTurns_0 : decode cX4_fewestTurns 0 = .ok (.iload_n 1, 1) := by decide +kernel
theorem dX4_fewestTurns_1 : decode cX4_fewestTurns 1 = .ok (.iload_n 2, 1) := by decide +kernel
theorem dX4_fewestTurns_2 : decode cX4_fewestTurns 2 = .ok (.invokestatic 21, 3) := by decide +kernel
theorem dX4_fewestTurns_5 : decode cX4_fewestTurns 5 = .ok (.iload_n 1, 1) := by decide +kernel
theorem dX4_fewestTurns_6 : decode cX4_fewestTurns 6 = .ok (.iload_n 3, 1) := by decide +kernel
theorem dX4_fewestTurns_7 : decode cX4_fewestTurns 7 = .ok (.invokestatic 21, 3) := by decide +kernel
theorem dX4_fewestTurns_10 : decode cX4_fewestTurns 10 = .ok (.if_icmp .eq 5, 3) := by decide +kernel
theorem dX4_fewestTurns_13 : decode cX4_fewestTurns 13 = .ok (.iconst (-1), 1) := by decide +kernel
theorem dX4_fewestTurns_14 : decode cX4_fewestTurns 14 = .ok (.ireturn, 1) := by decide +kernel
theorem dX4_fewestTurns_15 : decode cX4_fewestTurns 15 = .ok (.aload_n 0, 1) := by decide +kernel
theorem dX4_fewestTurns_16 : decode cX4_fewestTurns 16 = .ok (.getfield 12, 3) := by decide +kernel
theorem dX4_fewestTurns_19 : decode cX4_fewestTurns 19 = .ok (.iload_n 1, 1) := by decide +kernel
theorem dX4_fewestTurns_20 : decode cX4_fewestTurns 20 = .ok (.iload_n 2, 1) := by decide +kernel
theorem dX4_fewestTurns_21 : decode cX4_fewestTurns 21 = .ok (.invokevirtual 27, 3) := by decide +kernel
theorem dX4_fewestTurns_24 : decode cX4_fewestTurns 24 = .ok (.aload_n 0, 1) := by decide +kernel
theorem dX4_fewestTurns_25 : decode cX4_fewestTurns 25 = .ok (.getfield 18, 3) := by decide +kernel
theorem dX4_fewestTurns_28 : decode cX4_fewestTurns 28 = .ok (.iload_n 1, 1) := by decide +kernel
theorem dX4_fewestTurns_29 : decode cX4_fewestTurns 29 = .ok (.iload_n 3, 1) := by decide +kernel
theorem dX4_fewestTurns_30 : decode cX4_fewestTurns 30 = .ok (.invokevirtual 27, 3) := by decide +kernel
theorem dX4_fewestTurns_33 : decode cX4_fewestTurns 33 = .ok (.aload_n 0, 1) := by decide +kernel
theorem dX4_fewestTurns_34 : decode cX4_fewestTurns 34 = .ok (.iload_n 2, 1) := by decide +kernel
theorem dX4_fewestTurns_35 : decode cX4_fewestTurns 35 = .ok (.putfield 31, 3) := by decide +kernel
theorem dX4_fewestTurns_38 : decode cX4_fewestTurns 38 = .ok (.aload_n 0, 1) := by decide +kernel
theorem dX4_fewestTurns_39 : decode cX4_fewestTurns 39 = .ok (.bipush 16, 2) := by decide +kernel
theorem dX4_fewestTurns_41 : decode cX4_fewestTurns 41 = .ok (.putfield 35, 3) := by decide +kernel
theorem dX4_fewestTurns_44 : decode cX4_fewestTurns 44 = .ok (.aload_n 0, 1) := by decide +kernel
theorem dX4_fewestTurns_45 : decode cX4_fewestTurns 45 = .ok (.iconst 0, 1) := by decide +kernel
theorem dX4_fewestTurns_46 : decode cX4_fewestTurns 46 = .ok (.iconst 0, 1) := by decide +kernel
theorem dX4_fewestTurns_47 : decode cX4_fewestTurns 47 = .ok (.iconst 0, 1) := by decide +kernel
theorem dX4_fewestTurns_48 : decode cX4_fewestTurns 48 = .ok (.aload_n 0, 1) := by decide +kernel
theorem dX4_fewestTurns_49 : decode cX4_fewestTurns 49 = .ok (.getfield 18, 3) := by decide +kernel
theorem dX4_fewestTurns_52 : decode cX4_fewestTurns 52 = .ok (.getfield 38, 3) := by decide +kernel
theorem dX4_fewestTurns_55 : decode cX4_fewestTurns 55 = .ok (.invokevirtual 42, 3) := by decide +kernel
theorem dX4_fewestTurns_58 : decode cX4_fewestTurns 58 = .ok (.aload_n 0, 1) := by decide +kernel
theorem dX4_fewestTurns_59 : decode cX4_fewestTurns 59 = .ok (.getfield 35, 3) := by decide +kernel
theorem dX4_fewestTurns_62 : decode cX4_fewestTurns 62 = .ok (.ireturn, 1) := by decide +kernel
set_option maxHeartbeats 4000000 in
set_option maxRecDepth 100000 in
theorem c_X4_fewestTurns (l : Launch) (D : eD) (T : Nat → ClassId) (h_t h_t_one h_t_two h_t_one_near h_t_one_fans h_t_two_near h_t_two_fans : Nat) (t_best : Int32) (t_code : Int32) (t_one_colours : Int64) (t_one_darks : Int32) (t_one_nodes : Int32) (t_one_fans : Nat → Int64) (t_one_near : Nat → Int32) (t_two_colours : Int64) (t_two_darks : Int32) (t_two_nodes : Int32) (t_two_fans : Nat → Int64) (t_two_near : Nat → Int32) (p1 : Int32) (p2 : Int32) (p3 : Int32) (post : Int32 → Int32 → Int32 → Int64 → Int32 → Int32 → (Nat → Int64) → (Nat → Int32) → Int64 → Int32 → Int32 → (Nat → Int64) → (Nat → Int32) → Prop) (h : F_X4_fewestTurns t_best t_code t_one_colours t_one_darks t_one_nodes t_one_fans t_one_near t_two_colours t_two_darks t_two_nodes t_two_fans t_two_near p1 p2 p3 post) : cI l D T yX4_fewestTurns cX4_fewestTurns 4 (some .int) 32 822 0 0 [.ref h_t, .int p1, .int p2, .int p3] [(h_t, .inr (3, [.ref h_t_one, .ref h_t_two, .int t_code, .int t_best])), (h_t_one, .inr (6, [.ref h_t_one_near, .ref h_t_one_fans, .int t_one_nodes, .int t_one_darks, .long t_one_colours])), (h_t_one_fans, aJ T 6 t_one_fans), (h_t_one_near, aI T 6 t_one_near), (h_t_two, .inr (6, [.ref h_t_two_near, .ref h_t_two_fans, .int t_two_nodes, .int t_two_darks, .long t_two_colours])), (h_t_two_fans, aJ T 6 t_two_fans), (h_t_two_near, aI T 6 t_two_near)] (fun r w1 => ∃ (t_best1 : Int32) (t_code1 : Int32) (t_one_colours1 : Int64) (t_one_darks1 : Int32) (t_one_nodes1 : Int32) (t_one_fans1 : Nat → Int64) (t_one_near1 : Nat → Int32) (t_two_colours1 : Int64) (t_two_darks1 : Int32) (t_two_nodes1 : Int32) (t_two_fans1 : Nat → Int64) (t_two_near1 : Nat → Int32), w1 = [(h_t, .inr (3, [.ref h_t_one, .ref h_t_two, .int t_code1, .int t_best1])), (h_t_one, .inr (6, [.ref h_t_one_near, .ref h_t_one_fans, .int t_one_nodes1, .int t_one_darks1, .long t_one_colours1])), (h_t_one_fans, aJ T 6 t_one_fans1), (h_t_one_near, aI T 6 t_one_near1), (h_t_two, .inr (6, [.ref h_t_two_near, .ref h_t_two_fans, .int t_two_nodes1, .int t_two_darks1, .long t_two_colours1])), (h_t_two_fans, aJ T 6 t_two_fans1), (h_t_two_near, aI T 6 t_two_near1)] ∧ post r t_best1 t_code1 t_one_colours1 t_one_darks1 t_one_nodes1 t_one_fans1 t_one_near1 t_two_colours1 t_two_darks1 t_two_nodes1 t_two_fans1 t_two_near1) := by
  refine xI_of (ty := .int) (by decide +kernel) (Nat.le_of_ble_eq_true rfl) rfl ?_
  intro G X hret
  change G 0 0 0 [(0, .ref h_t), (1, .int p1), (2, .int p2), (3, .int p3)] [] [(h_t, .inr (3, [.ref h_t_one, .ref h_t_two, .int t_code, .int t_best])), (h_t_one, .inr (6, [.ref h_t_one_near, .ref h_t_one_fans, .int t_one_nodes, .int t_one_darks, .long t_one_colours])), (h_t_one_fans, aJ T 6 t_one_fans), (h_t_one_near, aI T 6 t_one_near), (h_t_two, .inr (6, [.ref h_t_two_near, .ref h_t_two_fans, .int t_two_nodes, .int t_two_darks, .long t_two_colours])), (h_t_two_fans, aJ T 6 t_two_fans), (h_t_two_near, aI T 6 t_two_near)]
  unfold F_X4_fewestTurns at h
  refine x_iload_n X dX4_fewestTurns_0 1 rfl ?_
  refine x_iload_n X dX4_fewestTurns_1 2 rfl ?_
  refine x_callSI (av := [.int p1, .int p2]) (st := []) (wr := [(h_t, .inr (3, [.ref h_t_one, .ref h_t_two, .int t_code, .int t_best])), (h_t_one, .inr (6, [.ref h_t_one_near, .ref h_t_one_fans, .int t_one_nodes, .int t_one_darks, .long t_one_colours])), (h_t_one_fans, aJ T 6 t_one_fans), (h_t_one_near, aI T 6 t_one_near), (h_t_two, .inr (6, [.ref h_t_two_near, .ref h_t_two_fans, .int t_two_nodes, .int t_two_darks, .long t_two_colours])), (h_t_two_fans, aJ T 6 t_two_fans), (h_t_two_near, aI T 6 t_two_near)]) X (c_X0_darkNodes l D T  p1 p2 _ h) yk_X0_darkNodes tw_1104 dX4_fewestTurns_2 [] [0, 1, 2, 3, 4, 5, 6] rfl rfl rfl rfl (by decide) rfl rfl (Nat.le_of_ble_eq_true rfl) (Nat.le_of_ble_eq_true rfl) (Nat.le_of_ble_eq_true rfl) (Nat.zero_le _) (Nat.zero_le _) (fun r2 w1 hw => ?_)
  obtain ⟨rfl, h⟩ := hw
  refine x_perm (ws2 := [(h_t, .inr (3, [.ref h_t_one, .ref h_t_two, .int t_code, .int t_best])), (h_t_one, .inr (6, [.ref h_t_one_near, .ref h_t_one_fans, .int t_one_nodes, .int t_one_darks, .long t_one_colours])), (h_t_one_fans, aJ T 6 t_one_fans), (h_t_one_near, aI T 6 t_one_near), (h_t_two, .inr (6, [.ref h_t_two_near, .ref h_t_two_fans, .int t_two_nodes, .int t_two_darks, .long t_two_colours])), (h_t_two_fans, aJ T 6 t_two_fans), (h_t_two_near, aI T 6 t_two_near)]) X [0, 1, 2, 3, 4, 5, 6] rfl rfl ?_
  refine x_iload_n X dX4_fewestTurns_5 1 rfl ?_
  refine x_iload_n X dX4_fewestTurns_6 3 rfl ?_
  refine x_callSI (av := [.int p1, .int p3]) (st := [.int r2]) (wr := [(h_t, .inr (3, [.ref h_t_one, .ref h_t_two, .int t_code, .int t_best])), (h_t_one, .inr (6, [.ref h_t_one_near, .ref h_t_one_fans, .int t_one_nodes, .int t_one_darks, .long t_one_colours])), (h_t_one_fans, aJ T 6 t_one_fans), (h_t_one_near, aI T 6 t_one_near), (h_t_two, .inr (6, [.ref h_t_two_near, .ref h_t_two_fans, .int t_two_nodes, .int t_two_darks, .long t_two_colours])), (h_t_two_fans, aJ T 6 t_two_fans), (h_t_two_near, aI T 6 t_two_near)]) X (c_X0_darkNodes l D T  p1 p3 _ h) yk_X0_darkNodes tw_1104 dX4_fewestTurns_7 [] [0, 1, 2, 3, 4, 5, 6] rfl rfl rfl rfl (by decide) rfl rfl (Nat.le_of_ble_eq_true rfl) (Nat.le_of_ble_eq_true rfl) (Nat.le_of_ble_eq_true rfl) (Nat.zero_le _) (Nat.zero_le _) (fun r7 w1 hw => ?_)
  obtain ⟨rfl, h⟩ := hw
  refine x_perm (ws2 := [(h_t, .inr (3, [.ref h_t_one, .ref h_t_two, .int t_code, .int t_best])), (h_t_one, .inr (6, [.ref h_t_one_near, .ref h_t_one_fans, .int t_one_nodes, .int t_one_darks, .long t_one_colours])), (h_t_one_fans, aJ T 6 t_one_fans), (h_t_one_near, aI T 6 t_one_near), (h_t_two, .inr (6, [.ref h_t_two_near, .ref h_t_two_fans, .int t_two_nodes, .int t_two_darks, .long t_two_colours])), (h_t_two_fans, aJ T 6 t_two_fans), (h_t_two_near, aI T 6 t_two_near)]) X [0, 1, 2, 3, 4, 5, 6] rfl rfl ?_
  refine x_icmp_eq (tgt := 15) X dX4_fewestTurns_10 (by decide) (fun hc => ?_) (fun hc => ?_)
  · have h := h.1 hc
    refine x_aload_n X dX4_fewestTurns_15 0 rfl ?_
    refine x_get X inGX4 0 (by decide) rfl tw_284 dX4_fewestTurns_16 rfl 0 rfl rfl ?_
    refine x_iload_n X dX4_fewestTurns_19 1 rfl ?_
    refine x_iload_n X dX4_fewestTurns_20 2 rfl ?_
    refine x_callVV (av := [.int p1, .int p2]) (st := []) (wr := [(h_t, .inr (3, [.ref h_t_one, .ref h_t_two, .int t_code, .int t_best])), (h_t_two, .inr (6, [.ref h_t_two_near, .ref h_t_two_fans, .int t_two_nodes, .int t_two_darks, .long t_two_colours])), (h_t_two_fans, aJ T 6 t_two_fans), (h_t_two_near, aI T 6 t_two_near)]) X (c_X7_draw l D T h_t_one h_t_one_near h_t_one_fans t_one_colours t_one_darks t_one_nodes t_one_fans t_one_near p1 p2 _ h) yk_X7_draw tw_1107 dX4_fewestTurns_21 1 rfl rfl [1, 2, 3] [0, 4, 5, 6] rfl rfl rfl rfl (by decide) rfl rfl (Nat.le_of_ble_eq_true rfl) (Nat.le_of_ble_eq_true rfl) (Nat.le_of_ble_eq_true rfl) (Nat.zero_le _) (Nat.zero_le _) (fun w1 hw => ?_)
    obtain ⟨t_one_colours_21, t_one_darks_21, t_one_nodes_21, t_one_fans_21, t_one_near_21, rfl, h⟩ := hw
    refine x_perm (ws2 := [(h_t, .inr (3, [.ref h_t_one, .ref h_t_two, .int t_code, .int t_best])), (h_t_one, .inr (6, [.ref h_t_one_near, .ref h_t_one_fans, .int t_one_nodes_21, .int t_one_darks_21, .long t_one_colours_21])), (h_t_one_fans, aJ T 6 t_one_fans_21), (h_t_one_near, aI T 6 t_one_near_21), (h_t_two, .inr (6, [.ref h_t_two_near, .ref h_t_two_fans, .int t_two_nodes, .int t_two_darks, .long t_two_colours])), (h_t_two_fans, aJ T 6 t_two_fans), (h_t_two_near, aI T 6 t_two_near)]) X [0, 4, 5, 6, 1, 2, 3] rfl rfl ?_
    refine x_aload_n X dX4_fewestTurns_24 0 rfl ?_
    refine x_get X inGX4 1 (by decide) rfl tw_285 dX4_fewestTurns_25 rfl 0 rfl rfl ?_
    refine x_iload_n X dX4_fewestTurns_28 1 rfl ?_
    refine x_iload_n X dX4_fewestTurns_29 3 rfl ?_
    refine x_callVV (av := [.int p1, .int p3]) (st := []) (wr := [(h_t, .inr (3, [.ref h_t_one, .ref h_t_two, .int t_code, .int t_best])), (h_t_one, .inr (6, [.ref h_t_one_near, .ref h_t_one_fans, .int t_one_nodes_21, .int t_one_darks_21, .long t_one_colours_21])), (h_t_one_fans, aJ T 6 t_one_fans_21), (h_t_one_near, aI T 6 t_one_near_21)]) X (c_X7_draw l D T h_t_two h_t_two_near h_t_two_fans t_two_colours t_two_darks t_two_nodes t_two_fans t_two_near p1 p3 _ h) yk_X7_draw tw_1107 dX4_fewestTurns_30 4 rfl rfl [4, 5, 6] [0, 1, 2, 3] rfl rfl rfl rfl (by decide) rfl rfl (Nat.le_of_ble_eq_true rfl) (Nat.le_of_ble_eq_true rfl) (Nat.le_of_ble_eq_true rfl) (Nat.zero_le _) (Nat.zero_le _) (fun w1 hw => ?_)
    obtain ⟨t_two_colours_30, t_two_darks_30, t_two_nodes_30, t_two_fans_30, t_two_near_30, rfl, h⟩ := hw
    refine x_perm (ws2 := [(h_t, .inr (3, [.ref h_t_one, .ref h_t_two, .int t_code, .int t_best])), (h_t_one, .inr (6, [.ref h_t_one_near, .ref h_t_one_fans, .int t_one_nodes_21, .int t_one_darks_21, .long t_one_colours_21])), (h_t_one_fans, aJ T 6 t_one_fans_21), (h_t_one_near, aI T 6 t_one_near_21), (h_t_two, .inr (6, [.ref h_t_two_near, .ref h_t_two_fans, .int t_two_nodes_30, .int t_two_darks_30, .long t_two_colours_30])), (h_t_two_fans, aJ T 6 t_two_fans_30), (h_t_two_near, aI T 6 t_two_near_30)]) X [0, 1, 2, 3, 4, 5, 6] rfl rfl ?_
    refine x_aload_n X dX4_fewestTurns_33 0 rfl ?_
    refine x_iload_n X dX4_fewestTurns_34 2 rfl ?_
    refine x_put (ws' := [(h_t, .inr (3, [.ref h_t_one, .ref h_t_two, .int p2, .int t_best])), (h_t_one, .inr (6, [.ref h_t_one_near, .ref h_t_one_fans, .int t_one_nodes_21, .int t_one_darks_21, .long t_one_colours_21])), (h_t_one_fans, aJ T 6 t_one_fans_21), (h_t_one_near, aI T 6 t_one_near_21), (h_t_two, .inr (6, [.ref h_t_two_near, .ref h_t_two_fans, .int t_two_nodes_30, .int t_two_darks_30, .long t_two_colours_30])), (h_t_two_fans, aJ T 6 t_two_fans_30), (h_t_two_near, aI T 6 t_two_near_30)]) X inGX4 tyX4_ok nmX4 2 (by decide) rfl tw_286 dX4_fewestTurns_35 rfl rfl 0 rfl rfl rfl (Nat.le_of_ble_eq_true rfl) rfl ?_
    refine x_aload_n X dX4_fewestTurns_38 0 rfl ?_
    refine x_bipush (v := 16) X dX4_fewestTurns_39 (by decide) ?_
    refine x_put (ws' := [(h_t, .inr (3, [.ref h_t_one, .ref h_t_two, .int p2, .int (16 : Int32)])), (h_t_one, .inr (6, [.ref h_t_one_near, .ref h_t_one_fans, .int t_one_nodes_21, .int t_one_darks_21, .long t_one_colours_21])), (h_t_one_fans, aJ T 6 t_one_fans_21), (h_t_one_near, aI T 6 t_one_near_21), (h_t_two, .inr (6, [.ref h_t_two_near, .ref h_t_two_fans, .int t_two_nodes_30, .int t_two_darks_30, .long t_two_colours_30])), (h_t_two_fans, aJ T 6 t_two_fans_30), (h_t_two_near, aI T 6 t_two_near_30)]) X inGX4 tyX4_ok nmX4 3 (by decide) rfl tw_287 dX4_fewestTurns_41 rfl rfl 0 rfl rfl rfl (Nat.le_of_ble_eq_true rfl) rfl ?_
    refine x_aload_n X dX4_fewestTurns_44 0 rfl ?_
    refine x_iconst (v := 0) X dX4_fewestTurns_45 (by decide) ?_
    refine x_iconst (v := 0) X dX4_fewestTurns_46 (by decide) ?_
    refine x_iconst (v := 0) X dX4_fewestTurns_47 (by decide) ?_
    refine x_aload_n X dX4_fewestTurns_48 0 rfl ?_
    refine x_get X inGX4 1 (by decide) rfl tw_285 dX4_fewestTurns_49 rfl 0 rfl rfl ?_
    refine x_getN X inGX7 4 (by decide) rfl tw_219 dX4_fewestTurns_52 rfl 4 rfl rfl ?_
    refine x_callVV (av := [.int (0 : Int32), .int (0 : Int32), .int (0 : Int32), .long t_two_colours_30]) (st := []) (wr := [(h_t_one_fans, aJ T 6 t_one_fans_21), (h_t_one_near, aI T 6 t_one_near_21), (h_t_two_near, aI T 6 t_two_near_30)]) X (c_X4_layNext l D T h_t h_t_one h_t_two h_t_one_near h_t_one_fans h_t_two_near h_t_two_fans 10 (16 : Int32) p2 t_one_colours_21 t_one_darks_21 t_one_nodes_21 t_two_colours_30 t_two_darks_30 t_two_nodes_30 t_two_fans_30 (0 : Int32) (0 : Int32) (0 : Int32) t_two_colours_30 _ h) yk_X4_layNext tw_1108 dX4_fewestTurns_55 0 rfl rfl [0, 1, 4, 5] [2, 3, 6] rfl rfl rfl rfl (by decide) rfl rfl (Nat.le_of_ble_eq_true rfl) (Nat.le_of_ble_eq_true rfl) (Nat.le_of_ble_eq_true rfl) (Nat.zero_le _) (Nat.zero_le _) (fun w1 hw => ?_)
    obtain ⟨t_best_55, rfl, h⟩ := hw
    refine x_perm (ws2 := [(h_t, .inr (3, [.ref h_t_one, .ref h_t_two, .int p2, .int t_best_55])), (h_t_one, .inr (6, [.ref h_t_one_near, .ref h_t_one_fans, .int t_one_nodes_21, .int t_one_darks_21, .long t_one_colours_21])), (h_t_one_fans, aJ T 6 t_one_fans_21), (h_t_one_near, aI T 6 t_one_near_21), (h_t_two, .inr (6, [.ref h_t_two_near, .ref h_t_two_fans, .int t_two_nodes_30, .int t_two_darks_30, .long t_two_colours_30])), (h_t_two_fans, aJ T 6 t_two_fans_30), (h_t_two_near, aI T 6 t_two_near_30)]) X [3, 4, 0, 1, 5, 6, 2] rfl rfl ?_
    refine x_aload_n X dX4_fewestTurns_58 0 rfl ?_
    refine x_get X inGX4 3 (by decide) rfl tw_287 dX4_fewestTurns_59 rfl 0 rfl rfl ?_
    exact hret _ _ _ _ dX4_fewestTurns_62 rfl ⟨t_best_55, p2, t_one_colours_21, t_one_darks_21, t_one_nodes_21, t_one_fans_21, t_one_near_21, t_two_colours_30, t_two_darks_30, t_two_nodes_30, t_two_fans_30, t_two_near_30, rfl, h⟩
  · have h := h.2 hc
    refine x_iconst (v := -1) X dX4_fewestTurns_13 (by decide) ?_
    exact hret _ _ _ _ dX4_fewestTurns_14 rfl ⟨t_best, t_code, t_one_colours, t_one_darks, t_one_nodes, t_one_fans, t_one_near, t_two_colours, t_two_darks, t_two_nodes, t_two_fans, t_two_near, rfl, h⟩
theorem dX4_pair_0 : decode cX4_pair 0 = .ok (.aload_n 0, 1) := by decide +kernel
theorem dX4_pair_1 : decode cX4_pair 1 = .ok (.iload_n 1, 1) := by decide +kernel
theorem dX4_pair_2 : decode cX4_pair 2 = .ok (.iconst 1, 1) := by decide +kernel
theorem dX4_pair_3 : decode cX4_pair 3 = .ok (.iadd, 1) := by decide +kernel
theorem dX4_pair_4 : decode cX4_pair 4 = .ok (.iload_n 2, 1) := by decide +kernel
theorem dX4_pair_5 : decode cX4_pair 5 = .ok (.iload_n 3, 1) := by decide +kernel
theorem dX4_pair_6 : decode cX4_pair 6 = .ok (.iconst 1, 1) := by decide +kernel
theorem dX4_pair_7 : decode cX4_pair 7 = .ok (.iadd, 1) := by decide +kernel
theorem dX4_pair_8 : decode cX4_pair 8 = .ok (.lload 4, 2) := by decide +kernel
theorem dX4_pair_10 : decode cX4_pair 10 = .ok (.iconst 1, 1) := by decide +kernel
theorem dX4_pair_11 : decode cX4_pair 11 = .ok (.lshl, 1) := by decide +kernel
theorem dX4_pair_12 : decode cX4_pair 12 = .ok (.aload_n 0, 1) := by decide +kernel
theorem dX4_pair_13 : decode cX4_pair 13 = .ok (.getfield 12, 3) := by decide +kernel
theorem dX4_pair_16 : decode cX4_pair 16 = .ok (.iload_n 1, 1) := by decide +kernel
theorem dX4_pair_17 : decode cX4_pair 17 = .ok (.invokevirtual 66, 3) := by decide +kernel
theorem dX4_pair_20 : decode cX4_pair 20 = .ok (.lor, 1) := by decide +kernel
theorem dX4_pair_21 : decode cX4_pair 21 = .ok (.lload 6, 2) := by decide +kernel
theorem dX4_pair_23 : decode cX4_pair 23 = .ok (.invokevirtual 70, 3) := by decide +kernel
theorem dX4_pair_26 : decode cX4_pair 26 = .ok (.return_, 1) := by decide +kernel
set_option maxHeartbeats 4000000 in
set_option maxRecDepth 100000 in
theorem c_X4_pair (l : Launch) (D : eD) (T : Nat → ClassId) (h_t h_t_one h_t_two h_t_one_near h_t_one_fans h_t_two_near h_t_two_fans : Nat) (FA : Int32 → (Nat → Int64) → Int32 → (Nat → Int64) → Int32 → Int32 → Int32 → Int32 → Int64 → Int64 → (Int32 → Prop) → Prop) (fA lA : Nat) (ih : ∀ (t_best : Int32) (t_code : Int32) (t_one_colours : Int64) (t_one_darks : Int32) (t_one_nodes : Int32) (t_one_fans : Nat → Int64) (t_two_colours : Int64) (t_two_darks : Int32) (t_two_nodes : Int32) (t_two_fans : Nat → Int64) (p1 : Int32) (p2 : Int32) (p3 : Int32) (p4 : Int64) (p5 : Int64) (post : Int32 → Prop), FA t_one_nodes t_one_fans t_two_nodes t_two_fans t_best p1 p2 p3 p4 p5 post → cV l D T yX4_pairNext cX4_pairNext 11 none fA lA 0 0 [.ref h_t, .int p1, .int p2, .int p3, .long p4, .long p5] [(h_t, .inr (3, [.ref h_t_one, .ref h_t_two, .int t_code, .int t_best])), (h_t_one, .inr (6, [.ref h_t_one_near, .ref h_t_one_fans, .int t_one_nodes, .int t_one_darks, .long t_one_colours])), (h_t_one_fans, aJ T 6 t_one_fans), (h_t_two, .inr (6, [.ref h_t_two_near, .ref h_t_two_fans, .int t_two_nodes, .int t_two_darks, .long t_two_colours])), (h_t_two_fans, aJ T 6 t_two_fans)] (fun w1 => ∃ (t_best1 : Int32), w1 = [(h_t, .inr (3, [.ref h_t_one, .ref h_t_two, .int t_code, .int t_best1])), (h_t_one, .inr (6, [.ref h_t_one_near, .ref h_t_one_fans, .int t_one_nodes, .int t_one_darks, .long t_one_colours])), (h_t_one_fans, aJ T 6 t_one_fans), (h_t_two, .inr (6, [.ref h_t_two_near, .ref h_t_two_fans, .int t_two_nodes, .int t_two_darks, .long t_two_colours])), (h_t_two_fans, aJ T 6 t_two_fans)] ∧ post t_best1)) (t_best : Int32) (t_code : Int32) (t_one_colours : Int64) (t_one_darks : Int32) (t_one_nodes : Int32) (t_one_fans : Nat → Int64) (t_two_colours : Int64) (t_two_darks : Int32) (t_two_nodes : Int32) (t_two_fans : Nat → Int64) (p1 : Int32) (p2 : Int32) (p3 : Int32) (p4 : Int64) (p5 : Int64) (post : Int32 → Prop) (h : F_X4_pair FA t_one_nodes t_one_fans t_two_nodes t_two_fans t_best p1 p2 p3 p4 p5 post) : cV l D T yX4_pair cX4_pair 8 none (fA + 2) (lA + 51) 0 0 [.ref h_t, .int p1, .int p2, .int p3, .long p4, .long p5] [(h_t, .inr (3, [.ref h_t_one, .ref h_t_two, .int t_code, .int t_best])), (h_t_one, .inr (6, [.ref h_t_one_near, .ref h_t_one_fans, .int t_one_nodes, .int t_one_darks, .long t_one_colours])), (h_t_one_fans, aJ T 6 t_one_fans), (h_t_two, .inr (6, [.ref h_t_two_near, .ref h_t_two_fans, .int t_two_nodes, .int t_two_darks, .long t_two_colours])), (h_t_two_fans, aJ T 6 t_two_fans)] (fun w1 => ∃ (t_best1 : Int32), w1 = [(h_t, .inr (3, [.ref h_t_one, .ref h_t_two, .int t_code, .int t_best1])), (h_t_one, .inr (6, [.ref h_t_one_near, .ref h_t_one_fans, .int t_one_nodes, .int t_one_darks, .long t_one_colours])), (h_t_one_fans, aJ T 6 t_one_fans), (h_t_two, .inr (6, [.ref h_t_two_near, .ref h_t_two_fans, .int t_two_nodes, .int t_two_darks, .long t_two_colours])), (h_t_two_fans, aJ T 6 t_two_fans)] ∧ post t_best1) := by
  refine xV_of (by decide +kernel) (Nat.le_of_ble_eq_true rfl) rfl ?_
  intro G X hret
  change G 0 0 0 [(0, .ref h_t), (1, .int p1), (2, .int p2), (3, .int p3), (4, .long p4), (6, .long p5)] [] [(h_t, .inr (3, [.ref h_t_one, .ref h_t_two, .int t_code, .int t_best])), (h_t_one, .inr (6, [.ref h_t_one_near, .ref h_t_one_fans, .int t_one_nodes, .int t_one_darks, .long t_one_colours])), (h_t_one_fans, aJ T 6 t_one_fans), (h_t_two, .inr (6, [.ref h_t_two_near, .ref h_t_two_fans, .int t_two_nodes, .int t_two_darks, .long t_two_colours])), (h_t_two_fans, aJ T 6 t_two_fans)]
  unfold F_X4_pair at h
  refine x_aload_n X dX4_pair_0 0 rfl ?_
  refine x_iload_n X dX4_pair_1 1 rfl ?_
  refine x_iconst (v := 1) X dX4_pair_2 (by decide) ?_
  refine x_iadd X dX4_pair_3 ?_
  refine x_iload_n X dX4_pair_4 2 rfl ?_
  refine x_iload_n X dX4_pair_5 3 rfl ?_
  refine x_iconst (v := 1) X dX4_pair_6 (by decide) ?_
  refine x_iadd X dX4_pair_7 ?_
  refine x_lload X dX4_pair_8 4 rfl ?_
  refine x_iconst (v := 1) X dX4_pair_10 (by decide) ?_
  refine x_lshl X dX4_pair_11 ?_
  refine x_aload_n X dX4_pair_12 0 rfl ?_
  refine x_get X inGX4 0 (by decide) rfl tw_284 dX4_pair_13 rfl 0 rfl rfl ?_
  refine x_iload_n X dX4_pair_16 1 rfl ?_
  refine x_callVJ (av := [.int p1]) (st := [.long (p4 <<< ((1 : Int32).toInt64 &&& 63)), .int (p3 + (1 : Int32)), .int p2, .int (p1 + (1 : Int32)), .ref h_t]) (wr := [(h_t, .inr (3, [.ref h_t_one, .ref h_t_two, .int t_code, .int t_best])), (h_t_two, .inr (6, [.ref h_t_two_near, .ref h_t_two_fans, .int t_two_nodes, .int t_two_darks, .long t_two_colours])), (h_t_two_fans, aJ T 6 t_two_fans)]) X (c_X7_fan l D T h_t_one h_t_one_near h_t_one_fans t_one_colours t_one_darks t_one_nodes t_one_fans p1 _ h) yk_X7_fan tw_1119 dX4_pair_17 1 rfl rfl [1, 2] [0, 3, 4] rfl rfl rfl rfl (by decide) rfl rfl (Nat.le_of_ble_eq_true rfl) (by dsimp only [eR]; omega) (by dsimp only [eR]; omega) (Nat.zero_le _) (Nat.zero_le _) (fun r17 w1 hw => ?_)
  obtain ⟨rfl, h⟩ := hw
  refine x_perm (ws2 := [(h_t, .inr (3, [.ref h_t_one, .ref h_t_two, .int t_code, .int t_best])), (h_t_one, .inr (6, [.ref h_t_one_near, .ref h_t_one_fans, .int t_one_nodes, .int t_one_darks, .long t_one_colours])), (h_t_one_fans, aJ T 6 t_one_fans), (h_t_two, .inr (6, [.ref h_t_two_near, .ref h_t_two_fans, .int t_two_nodes, .int t_two_darks, .long t_two_colours])), (h_t_two_fans, aJ T 6 t_two_fans)]) X [0, 3, 4, 1, 2] rfl rfl ?_
  refine x_lor X dX4_pair_20 ?_
  refine x_lload X dX4_pair_21 5 rfl ?_
  refine x_callVV (av := [.int (p1 + (1 : Int32)), .int p2, .int (p3 + (1 : Int32)), .long ((p4 <<< ((1 : Int32).toInt64 &&& 63)) ||| r17), .long p5]) (st := []) (wr := []) X (ih t_best t_code t_one_colours t_one_darks t_one_nodes t_one_fans t_two_colours t_two_darks t_two_nodes t_two_fans (p1 + (1 : Int32)) p2 (p3 + (1 : Int32)) ((p4 <<< ((1 : Int32).toInt64 &&& 63)) ||| r17) p5 _ h) yk_X4_pairNext tw_1131 dX4_pair_23 0 rfl rfl [0, 1, 2, 3, 4] [] rfl rfl rfl rfl (by decide) rfl rfl (Nat.le_of_ble_eq_true rfl) (by dsimp only [eR]; omega) (by dsimp only [eR]; omega) (Nat.zero_le _) (Nat.zero_le _) (fun w1 hw => ?_)
  obtain ⟨t_best_23, rfl, h⟩ := hw
  refine x_perm (ws2 := [(h_t, .inr (3, [.ref h_t_one, .ref h_t_two, .int t_code, .int t_best_23])), (h_t_one, .inr (6, [.ref h_t_one_near, .ref h_t_one_fans, .int t_one_nodes, .int t_one_darks, .long t_one_colours])), (h_t_one_fans, aJ T 6 t_one_fans), (h_t_two, .inr (6, [.ref h_t_two_near, .ref h_t_two_fans, .int t_two_nodes, .int t_two_darks, .long t_two_colours])), (h_t_two_fans, aJ T 6 t_two_fans)]) X [0, 1, 2, 3, 4] rfl rfl ?_
  exact hret _ _ _ dX4_pair_26 ⟨t_best_23, rfl, h⟩
theorem dX4_leaveOut_0 : decode cX4_leaveOut 0 = .ok (.aload_n 0, 1) := by decide +kernel
theorem dX4_leaveOut_1 : decode cX4_leaveOut 1 = .ok (.iload_n 1, 1) := by decide +kernel
theorem dX4_leaveOut_2 : decode cX4_leaveOut 2 = .ok (.iconst 1, 1) := by decide +kernel
theorem dX4_leaveOut_3 : decode cX4_leaveOut 3 = .ok (.iadd, 1) := by decide +kernel
theorem dX4_leaveOut_4 : decode cX4_leaveOut 4 = .ok (.iload_n 2, 1) := by decide +kernel
theorem dX4_leaveOut_5 : decode cX4_leaveOut 5 = .ok (.iload_n 3, 1) := by decide +kernel
theorem dX4_leaveOut_6 : decode cX4_leaveOut 6 = .ok (.lload 4, 2) := by decide +kernel
theorem dX4_leaveOut_8 : decode cX4_leaveOut 8 = .ok (.lload 6, 2) := by decide +kernel
theorem dX4_leaveOut_10 : decode cX4_leaveOut 10 = .ok (.invokevirtual 70, 3) := by decide +kernel
theorem dX4_leaveOut_13 : decode cX4_leaveOut 13 = .ok (.return_, 1) := by decide +kernel
set_option maxHeartbeats 4000000 in
set_option maxRecDepth 100000 in
theorem c_X4_leaveOut (l : Launch) (D : eD) (T : Nat → ClassId) (h_t h_t_one h_t_two h_t_one_near h_t_one_fans h_t_two_near h_t_two_fans : Nat) (FA : Int32 → (Nat → Int64) → Int32 → (Nat → Int64) → Int32 → Int32 → Int32 → Int32 → Int64 → Int64 → (Int32 → Prop) → Prop) (fA lA : Nat) (ih : ∀ (t_best : Int32) (t_code : Int32) (t_one_colours : Int64) (t_one_darks : Int32) (t_one_nodes : Int32) (t_one_fans : Nat → Int64) (t_two_colours : Int64) (t_two_darks : Int32) (t_two_nodes : Int32) (t_two_fans : Nat → Int64) (p1 : Int32) (p2 : Int32) (p3 : Int32) (p4 : Int64) (p5 : Int64) (post : Int32 → Prop), FA t_one_nodes t_one_fans t_two_nodes t_two_fans t_best p1 p2 p3 p4 p5 post → cV l D T yX4_pairNext cX4_pairNext 11 none fA lA 0 0 [.ref h_t, .int p1, .int p2, .int p3, .long p4, .long p5] [(h_t, .inr (3, [.ref h_t_one, .ref h_t_two, .int t_code, .int t_best])), (h_t_one, .inr (6, [.ref h_t_one_near, .ref h_t_one_fans, .int t_one_nodes, .int t_one_darks, .long t_one_colours])), (h_t_one_fans, aJ T 6 t_one_fans), (h_t_two, .inr (6, [.ref h_t_two_near, .ref h_t_two_fans, .int t_two_nodes, .int t_two_darks, .long t_two_colours])), (h_t_two_fans, aJ T 6 t_two_fans)] (fun w1 => ∃ (t_best1 : Int32), w1 = [(h_t, .inr (3, [.ref h_t_one, .ref h_t_two, .int t_code, .int t_best1])), (h_t_one, .inr (6, [.ref h_t_one_near, .ref h_t_one_fans, .int t_one_nodes, .int t_one_darks, .long t_one_colours])), (h_t_one_fans, aJ T 6 t_one_fans), (h_t_two, .inr (6, [.ref h_t_two_near, .ref h_t_two_fans, .int t_two_nodes, .int t_two_darks, .long t_two_colours])), (h_t_two_fans, aJ T 6 t_two_fans)] ∧ post t_best1)) (t_best : Int32) (t_code : Int32) (t_one_colours : Int64) (t_one_darks : Int32) (t_one_nodes : Int32) (t_one_fans : Nat → Int64) (t_two_colours : Int64) (t_two_darks : Int32) (t_two_nodes : Int32) (t_two_fans : Nat → Int64) (p1 : Int32) (p2 : Int32) (p3 : Int32) (p4 : Int64) (p5 : Int64) (post : Int32 → Prop) (h : F_X4_leaveOut FA t_one_nodes t_one_fans t_two_nodes t_two_fans t_best p1 p2 p3 p4 p5 post) : cV l D T yX4_leaveOut cX4_leaveOut 8 none (fA + 1) (lA + 30) 0 0 [.ref h_t, .int p1, .int p2, .int p3, .long p4, .long p5] [(h_t, .inr (3, [.ref h_t_one, .ref h_t_two, .int t_code, .int t_best])), (h_t_one, .inr (6, [.ref h_t_one_near, .ref h_t_one_fans, .int t_one_nodes, .int t_one_darks, .long t_one_colours])), (h_t_one_fans, aJ T 6 t_one_fans), (h_t_two, .inr (6, [.ref h_t_two_near, .ref h_t_two_fans, .int t_two_nodes, .int t_two_darks, .long t_two_colours])), (h_t_two_fans, aJ T 6 t_two_fans)] (fun w1 => ∃ (t_best1 : Int32), w1 = [(h_t, .inr (3, [.ref h_t_one, .ref h_t_two, .int t_code, .int t_best1])), (h_t_one, .inr (6, [.ref h_t_one_near, .ref h_t_one_fans, .int t_one_nodes, .int t_one_darks, .long t_one_colours])), (h_t_one_fans, aJ T 6 t_one_fans), (h_t_two, .inr (6, [.ref h_t_two_near, .ref h_t_two_fans, .int t_two_nodes, .int t_two_darks, .long t_two_colours])), (h_t_two_fans, aJ T 6 t_two_fans)] ∧ post t_best1) := by
  refine xV_of (by decide +kernel) (Nat.le_of_ble_eq_true rfl) rfl ?_
  intro G X hret
  change G 0 0 0 [(0, .ref h_t), (1, .int p1), (2, .int p2), (3, .int p3), (4, .long p4), (6, .long p5)] [] [(h_t, .inr (3, [.ref h_t_one, .ref h_t_two, .int t_code, .int t_best])), (h_t_one, .inr (6, [.ref h_t_one_near, .ref h_t_one_fans, .int t_one_nodes, .int t_one_darks, .long t_one_colours])), (h_t_one_fans, aJ T 6 t_one_fans), (h_t_two, .inr (6, [.ref h_t_two_near, .ref h_t_two_fans, .int t_two_nodes, .int t_two_darks, .long t_two_colours])), (h_t_two_fans, aJ T 6 t_two_fans)]
  unfold F_X4_leaveOut at h
  refine x_aload_n X dX4_leaveOut_0 0 rfl ?_
  refine x_iload_n X dX4_leaveOut_1 1 rfl ?_
  refine x_iconst (v := 1) X dX4_leaveOut_2 (by decide) ?_
  refine x_iadd X dX4_leaveOut_3 ?_
  refine x_iload_n X dX4_leaveOut_4 2 rfl ?_
  refine x_iload_n X dX4_leaveOut_5 3 rfl ?_
  refine x_lload X dX4_leaveOut_6 4 rfl ?_
  refine x_lload X dX4_leaveOut_8 5 rfl ?_
  refine x_callVV (av := [.int (p1 + (1 : Int32)), .int p2, .int p3, .long p4, .long p5]) (st := []) (wr := []) X (ih t_best t_code t_one_colours t_one_darks t_one_nodes t_one_fans t_two_colours t_two_darks t_two_nodes t_two_fans (p1 + (1 : Int32)) p2 p3 p4 p5 _ h) yk_X4_pairNext tw_1131 dX4_leaveOut_10 0 rfl rfl [0, 1, 2, 3, 4] [] rfl rfl rfl rfl (by decide) rfl rfl (Nat.le_of_ble_eq_true rfl) (by dsimp only [eR]; omega) (by dsimp only [eR]; omega) (Nat.zero_le _) (Nat.zero_le _) (fun w1 hw => ?_)
  obtain ⟨t_best_10, rfl, h⟩ := hw
  refine x_perm (ws2 := [(h_t, .inr (3, [.ref h_t_one, .ref h_t_two, .int t_code, .int t_best_10])), (h_t_one, .inr (6, [.ref h_t_one_near, .ref h_t_one_fans, .int t_one_nodes, .int t_one_darks, .long t_one_colours])), (h_t_one_fans, aJ T 6 t_one_fans), (h_t_two, .inr (6, [.ref h_t_two_near, .ref h_t_two_fans, .int t_two_nodes, .int t_two_darks, .long t_two_colours])), (h_t_two_fans, aJ T 6 t_two_fans)]) X [0, 1, 2, 3, 4] rfl rfl ?_
  exact hret _ _ _ dX4_leaveOut_13 ⟨t_best_10, rfl, h⟩
theorem dX4_pairNext_0 : decode cX4_pairNext 0 = .ok (.aload_n 0, 1) := by decide +kernel
theorem dX4_pairNext_1 : decode cX4_pairNext 1 = .ok (.aload_n 0, 1) := by decide +kernel
theorem dX4_pairNext_2 : decode cX4_pairNext 2 = .ok (.getfield 35, 3) := by decide +kernel
theorem dX4_pairNext_5 : decode cX4_pairNext 5 = .ok (.iload_n 3, 1) := by decide +kernel
theorem dX4_pairNext_6 : decode cX4_pairNext 6 = .ok (.invokestatic 74, 3) := by decide +kernel
theorem dX4_pairNext_9 : decode cX4_pairNext 9 = .ok (.putfield 35, 3) := by decide +kernel
theorem dX4_pairNext_12 : decode cX4_pairNext 12 = .ok (.aload_n 0, 1) := by decide +kernel
theorem dX4_pairNext_13 : decode cX4_pairNext 13 = .ok (.getfield 12, 3) := by decide +kernel
theorem dX4_pairNext_16 : decode cX4_pairNext 16 = .ok (.getfield 46, 3) := by decide +kernel
theorem dX4_pairNext_19 : decode cX4_pairNext 19 = .ok (.iload_n 1, 1) := by decide +kernel
theorem dX4_pairNext_20 : decode cX4_pairNext 20 = .ok (.isub, 1) := by decide +kernel
theorem dX4_pairNext_21 : decode cX4_pairNext 21 = .ok (.aload_n 0, 1) := by decide +kernel
theorem dX4_pairNext_22 : decode cX4_pairNext 22 = .ok (.getfield 18, 3) := by decide +kernel
theorem dX4_pairNext_25 : decode cX4_pairNext 25 = .ok (.getfield 46, 3) := by decide +kernel
theorem dX4_pairNext_28 : decode cX4_pairNext 28 = .ok (.iload_n 3, 1) := by decide +kernel
theorem dX4_pairNext_29 : decode cX4_pairNext 29 = .ok (.isub, 1) := by decide +kernel
theorem dX4_pairNext_30 : decode cX4_pairNext 30 = .ok (.invokestatic 79, 3) := by decide +kernel
theorem dX4_pairNext_33 : decode cX4_pairNext 33 = .ok (.istore 8, 2) := by decide +kernel
theorem dX4_pairNext_35 : decode cX4_pairNext 35 = .ok (.iload 8, 2) := by decide +kernel
theorem dX4_pairNext_37 : decode cX4_pairNext 37 = .ok (.ifCond .le 14, 3) := by decide +kernel
theorem dX4_pairNext_40 : decode cX4_pairNext 40 = .ok (.iload_n 3, 1) := by decide +kernel
theorem dX4_pairNext_41 : decode cX4_pairNext 41 = .ok (.iload 8, 2) := by decide +kernel
theorem dX4_pairNext_43 : decode cX4_pairNext 43 = .ok (.iadd, 1) := by decide +kernel
theorem dX4_pairNext_44 : decode cX4_pairNext 44 = .ok (.aload_n 0, 1) := by decide +kernel
theorem dX4_pairNext_45 : decode cX4_pairNext 45 = .ok (.getfield 35, 3) := by decide +kernel
theorem dX4_pairNext_48 : decode cX4_pairNext 48 = .ok (.if_icmp .gt 4, 3) := by decide +kernel
theorem dX4_pairNext_51 : decode cX4_pairNext 51 = .ok (.return_, 1) := by decide +kernel
theorem dX4_pairNext_52 : decode cX4_pairNext 52 = .ok (.lload 4, 2) := by decide +kernel
theorem dX4_pairNext_54 : decode cX4_pairNext 54 = .ok (.iload_n 1, 1) := by decide +kernel
theorem dX4_pairNext_55 : decode cX4_pairNext 55 = .ok (.invokestatic 53, 3) := by decide +kernel
theorem dX4_pairNext_58 : decode cX4_pairNext 58 = .ok (.istore 9, 2) := by decide +kernel
theorem dX4_pairNext_60 : decode cX4_pairNext 60 = .ok (.iconst 0, 1) := by decide +kernel
theorem dX4_pairNext_61 : decode cX4_pairNext 61 = .ok (.istore 10, 2) := by decide +kernel
theorem dX4_pairNext_63 : decode cX4_pairNext 63 = .ok (.iload 10, 2) := by decide +kernel
theorem dX4_pairNext_65 : decode cX4_pairNext 65 = .ok (.aload_n 0, 1) := by decide +kernel
theorem dX4_pairNext_66 : decode cX4_pairNext 66 = .ok (.getfield 18, 3) := by decide +kernel
theorem dX4_pairNext_69 : decode cX4_pairNext 69 = .ok (.getfield 46, 3) := by decide +kernel
theorem dX4_pairNext_72 : decode cX4_pairNext 72 = .ok (.if_icmp .ge 58, 3) := by decide +kernel
theorem dX4_pairNext_75 : decode cX4_pairNext 75 = .ok (.iload_n 2, 1) := by decide +kernel
theorem dX4_pairNext_76 : decode cX4_pairNext 76 = .ok (.iload 10, 2) := by decide +kernel
theorem dX4_pairNext_78 : decode cX4_pairNext 78 = .ok (.ishr, 1) := by decide +kernel
theorem dX4_pairNext_79 : decode cX4_pairNext 79 = .ok (.iconst 1, 1) := by decide +kernel
theorem dX4_pairNext_80 : decode cX4_pairNext 80 = .ok (.iand, 1) := by decide +kernel
theorem dX4_pairNext_81 : decode cX4_pairNext 81 = .ok (.ifCond .ne 43, 3) := by decide +kernel
theorem dX4_pairNext_84 : decode cX4_pairNext 84 = .ok (.lload 6, 2) := by decide +kernel
theorem dX4_pairNext_86 : decode cX4_pairNext 86 = .ok (.iload 10, 2) := by decide +kernel
theorem dX4_pairNext_88 : decode cX4_pairNext 88 = .ok (.invokestatic 53, 3) := by decide +kernel
theorem dX4_pairNext_91 : decode cX4_pairNext 91 = .ok (.iload 9, 2) := by decide +kernel
theorem dX4_pairNext_93 : decode cX4_pairNext 93 = .ok (.if_icmp .ne 31, 3) := by decide +kernel
theorem dX4_pairNext_96 : decode cX4_pairNext 96 = .ok (.aload_n 0, 1) := by decide +kernel
theorem dX4_pairNext_97 : decode cX4_pairNext 97 = .ok (.iload_n 1, 1) := by decide +kernel
theorem dX4_pairNext_98 : decode cX4_pairNext 98 = .ok (.iload_n 2, 1) := by decide +kernel
theorem dX4_pairNext_99 : decode cX4_pairNext 99 = .ok (.iconst 1, 1) := by decide +kernel
theorem dX4_pairNext_100 : decode cX4_pairNext 100 = .ok (.iload 10, 2) := by decide +kernel
theorem dX4_pairNext_102 : decode cX4_pairNext 102 = .ok (.ishl, 1) := by decide +kernel
theorem dX4_pairNext_103 : decode cX4_pairNext 103 = .ok (.ior, 1) := by decide +kernel
theorem dX4_pairNext_104 : decode cX4_pairNext 104 = .ok (.iload_n 3, 1) := by decide +kernel
theorem dX4_pairNext_105 : decode cX4_pairNext 105 = .ok (.lload 4, 2) := by decide +kernel
theorem dX4_pairNext_107 : decode cX4_pairNext 107 = .ok (.lload 6, 2) := by decide +kernel
theorem dX4_pairNext_109 : decode cX4_pairNext 109 = .ok (.iconst 1, 1) := by decide +kernel
theorem dX4_pairNext_110 : decode cX4_pairNext 110 = .ok (.lshl, 1) := by decide +kernel
theorem dX4_pairNext_111 : decode cX4_pairNext 111 = .ok (.aload_n 0, 1) := by decide +kernel
theorem dX4_pairNext_112 : decode cX4_pairNext 112 = .ok (.getfield 18, 3) := by decide +kernel
theorem dX4_pairNext_115 : decode cX4_pairNext 115 = .ok (.iload 10, 2) := by decide +kernel
theorem dX4_pairNext_117 : decode cX4_pairNext 117 = .ok (.invokevirtual 66, 3) := by decide +kernel
theorem dX4_pairNext_120 : decode cX4_pairNext 120 = .ok (.lor, 1) := by decide +kernel
theorem dX4_pairNext_121 : decode cX4_pairNext 121 = .ok (.invokevirtual 82, 3) := by decide +kernel
theorem dX4_pairNext_124 : decode cX4_pairNext 124 = .ok (.iinc 10 1, 3) := by decide +kernel
theorem dX4_pairNext_127 : decode cX4_pairNext 127 = .ok (.goto (-64), 3) := by decide +kernel
theorem dX4_pairNext_130 : decode cX4_pairNext 130 = .ok (.aload_n 0, 1) := by decide +kernel
theorem dX4_pairNext_131 : decode cX4_pairNext 131 = .ok (.iload_n 1, 1) := by decide +kernel
theorem dX4_pairNext_132 : decode cX4_pairNext 132 = .ok (.iload_n 2, 1) := by decide +kernel
theorem dX4_pairNext_133 : decode cX4_pairNext 133 = .ok (.iload_n 3, 1) := by decide +kernel
theorem dX4_pairNext_134 : decode cX4_pairNext 134 = .ok (.lload 4, 2) := by decide +kernel
theorem dX4_pairNext_136 : decode cX4_pairNext 136 = .ok (.lload 6, 2) := by decide +kernel
theorem dX4_pairNext_138 : decode cX4_pairNext 138 = .ok (.invokevirtual 85, 3) := by decide +kernel
theorem dX4_pairNext_141 : decode cX4_pairNext 141 = .ok (.return_, 1) := by decide +kernel
set_option maxHeartbeats 4000000 in
set_option maxRecDepth 100000 in
theorem c_X4_pairNext (l : Launch) (D : eD) (T : Nat → ClassId) (h_t h_t_one h_t_two h_t_one_near h_t_one_fans h_t_two_near h_t_two_fans : Nat) : ∀ d : Nat, ∀ (t_best : Int32) (t_code : Int32) (t_one_colours : Int64) (t_one_darks : Int32) (t_one_nodes : Int32) (t_one_fans : Nat → Int64) (t_two_colours : Int64) (t_two_darks : Int32) (t_two_nodes : Int32) (t_two_fans : Nat → Int64) (p1 : Int32) (p2 : Int32) (p3 : Int32) (p4 : Int64) (p5 : Int64) (post : Int32 → Prop), F_X4_pairNext d t_one_nodes t_one_fans t_two_nodes t_two_fans t_best p1 p2 p3 p4 p5 post → cV l D T yX4_pairNext cX4_pairNext 11 none (3 * d + 1) (78 * d + 50) 0 0 [.ref h_t, .int p1, .int p2, .int p3, .long p4, .long p5] [(h_t, .inr (3, [.ref h_t_one, .ref h_t_two, .int t_code, .int t_best])), (h_t_one, .inr (6, [.ref h_t_one_near, .ref h_t_one_fans, .int t_one_nodes, .int t_one_darks, .long t_one_colours])), (h_t_one_fans, aJ T 6 t_one_fans), (h_t_two, .inr (6, [.ref h_t_two_near, .ref h_t_two_fans, .int t_two_nodes, .int t_two_darks, .long t_two_colours])), (h_t_two_fans, aJ T 6 t_two_fans)] (fun w1 => ∃ (t_best1 : Int32), w1 = [(h_t, .inr (3, [.ref h_t_one, .ref h_t_two, .int t_code, .int t_best1])), (h_t_one, .inr (6, [.ref h_t_one_near, .ref h_t_one_fans, .int t_one_nodes, .int t_one_darks, .long t_one_colours])), (h_t_one_fans, aJ T 6 t_one_fans), (h_t_two, .inr (6, [.ref h_t_two_near, .ref h_t_two_fans, .int t_two_nodes, .int t_two_darks, .long t_two_colours])), (h_t_two_fans, aJ T 6 t_two_fans)] ∧ post t_best1) := by
  intro d
  induction d with
  | zero =>
    intro t_best t_code t_one_colours t_one_darks t_one_nodes t_one_fans t_two_colours t_two_darks t_two_nodes t_two_fans p1 p2 p3 p4 p5 post h
    exact h.elim
  | succ d ih =>
  intro t_best t_code t_one_colours t_one_darks t_one_nodes t_one_fans t_two_colours t_two_darks t_two_nodes t_two_fans p1 p2 p3 p4 p5 post h
  have h : FB_X4_pairNext (F_X4_pairNext d) t_one_nodes t_one_fans t_two_nodes t_two_fans t_best p1 p2 p3 p4 p5 post := h
  generalize F_X4_pairNext d = FA at h ih
  refine xV_of (by decide +kernel) (Nat.le_of_ble_eq_true rfl) rfl ?_
  intro G X hret
  change G 0 0 0 [(0, .ref h_t), (1, .int p1), (2, .int p2), (3, .int p3), (4, .long p4), (6, .long p5)] [] [(h_t, .inr (3, [.ref h_t_one, .ref h_t_two, .int t_code, .int t_best])), (h_t_one, .inr (6, [.ref h_t_one_near, .ref h_t_one_fans, .int t_one_nodes, .int t_one_darks, .long t_one_colours])), (h_t_one_fans, aJ T 6 t_one_fans), (h_t_two, .inr (6, [.ref h_t_two_near, .ref h_t_two_fans, .int t_two_nodes, .int t_two_darks, .long t_two_colours])), (h_t_two_fans, aJ T 6 t_two_fans)]
  unfold FB_X4_pairNext at h
  have k51 : ∀ (t_best : Int32), F_X4_pairNext_51 FA t_one_nodes t_one_fans t_two_nodes t_two_fans post t_best → G 0 0 51 [] [] [(h_t, .inr (3, [.ref h_t_one, .ref h_t_two, .int t_code, .int t_best])), (h_t_one, .inr (6, [.ref h_t_one_near, .ref h_t_one_fans, .int t_one_nodes, .int t_one_darks, .long t_one_colours])), (h_t_one_fans, aJ T 6 t_one_fans), (h_t_two, .inr (6, [.ref h_t_two_near, .ref h_t_two_fans, .int t_two_nodes, .int t_two_darks, .long t_two_colours])), (h_t_two_fans, aJ T 6 t_two_fans)] := by
    intro t_best h
    unfold F_X4_pairNext_51 at h
    exact hret _ _ _ dX4_pairNext_51 ⟨t_best, rfl, h⟩
  have k63 : ∀ (n63 : Nat) (x1 : Int32) (x2 : Int32) (x3 : Int32) (x4 : Int64) (x6 : Int64) (x9 : Int32) (x10 : Int32) (t_best : Int32), F_X4_pairNext_63 FA t_one_nodes t_one_fans t_two_nodes t_two_fans post n63 x1 x2 x3 x4 x6 x9 x10 t_best → G 0 0 63 [(0, .ref h_t), (1, .int x1), (2, .int x2), (3, .int x3), (4, .long x4), (6, .long x6), (9, .int x9), (10, .int x10)] [] [(h_t, .inr (3, [.ref h_t_one, .ref h_t_two, .int t_code, .int t_best])), (h_t_one, .inr (6, [.ref h_t_one_near, .ref h_t_one_fans, .int t_one_nodes, .int t_one_darks, .long t_one_colours])), (h_t_one_fans, aJ T 6 t_one_fans), (h_t_two, .inr (6, [.ref h_t_two_near, .ref h_t_two_fans, .int t_two_nodes, .int t_two_darks, .long t_two_colours])), (h_t_two_fans, aJ T 6 t_two_fans)] := by
    intro n63
    induction n63 with
    | zero => intro x1 x2 x3 x4 x6 x9 x10 t_best h; exact h.elim
    | succ n63 ih63 =>
      intro x1 x2 x3 x4 x6 x9 x10 t_best h
      rw [F_X4_pairNext_63] at h
      have k124 : ∀ (x1 : Int32) (x2 : Int32) (x3 : Int32) (x4 : Int64) (x6 : Int64) (x9 : Int32) (x10 : Int32) (t_best : Int32), F_X4_pairNext_124 FA t_one_nodes t_one_fans t_two_nodes t_two_fans post (F_X4_pairNext_63 FA t_one_nodes t_one_fans t_two_nodes t_two_fans post n63) x1 x2 x3 x4 x6 x9 x10 t_best → G 0 0 124 [(0, .ref h_t), (1, .int x1), (2, .int x2), (3, .int x3), (4, .long x4), (6, .long x6), (9, .int x9), (10, .int x10)] [] [(h_t, .inr (3, [.ref h_t_one, .ref h_t_two, .int t_code, .int t_best])), (h_t_one, .inr (6, [.ref h_t_one_near, .ref h_t_one_fans, .int t_one_nodes, .int t_one_darks, .long t_one_colours])), (h_t_one_fans, aJ T 6 t_one_fans), (h_t_two, .inr (6, [.ref h_t_two_near, .ref h_t_two_fans, .int t_two_nodes, .int t_two_darks, .long t_two_colours])), (h_t_two_fans, aJ T 6 t_two_fans)] := by
        intro x1 x2 x3 x4 x6 x9 x10 t_best h
        unfold F_X4_pairNext_124 at h
        refine x_iinc (v := (x10 + 1)) (lv' := [(10, .int (x10 + 1)), (0, .ref h_t), (1, .int x1), (2, .int x2), (3, .int x3), (4, .long x4), (6, .long x6), (9, .int x9)]) X dX4_pairNext_124 7 rfl rfl (by decide) rfl ?_
        refine x_goto (tgt := 63) X dX4_pairNext_127 (by decide) ?_
        exact x_sub X [1, 2, 3, 4, 5, 6, 7, 0] rfl (ih63 x1 x2 x3 x4 x6 x9 (x10 + 1) t_best h)
      refine x_iload X dX4_pairNext_63 7 rfl ?_
      refine x_aload_n X dX4_pairNext_65 0 rfl ?_
      refine x_get X inGX4 1 (by decide) rfl tw_285 dX4_pairNext_66 rfl 0 rfl rfl ?_
      refine x_getN X inGX7 2 (by decide) rfl tw_214 dX4_pairNext_69 rfl 3 rfl rfl ?_
      refine x_icmp_ge (tgt := 130) X dX4_pairNext_72 (by decide) (fun hc => ?_) (fun hc => ?_)
      · have h := h.1 hc
        refine x_aload_n X dX4_pairNext_130 0 rfl ?_
        refine x_iload_n X dX4_pairNext_131 1 rfl ?_
        refine x_iload_n X dX4_pairNext_132 2 rfl ?_
        refine x_iload_n X dX4_pairNext_133 3 rfl ?_
        refine x_lload X dX4_pairNext_134 4 rfl ?_
        refine x_lload X dX4_pairNext_136 5 rfl ?_
        refine x_callVV (av := [.int x1, .int x2, .int x3, .long x4, .long x6]) (st := []) (wr := []) X (c_X4_leaveOut l D T h_t h_t_one h_t_two h_t_one_near h_t_one_fans h_t_two_near h_t_two_fans FA (3 * d + 1) (78 * d + 50) ih t_best t_code t_one_colours t_one_darks t_one_nodes t_one_fans t_two_colours t_two_darks t_two_nodes t_two_fans x1 x2 x3 x4 x6 _ h) yk_X4_leaveOut tw_1141 dX4_pairNext_138 0 rfl rfl [0, 1, 2, 3, 4] [] rfl rfl rfl rfl (by decide) rfl rfl (Nat.le_of_ble_eq_true rfl) (by dsimp only [eR]; omega) (by dsimp only [eR]; omega) (Nat.zero_le _) (Nat.zero_le _) (fun w1 hw => ?_)
        obtain ⟨t_best_138, rfl, h⟩ := hw
        refine x_perm (ws2 := [(h_t, .inr (3, [.ref h_t_one, .ref h_t_two, .int t_code, .int t_best_138])), (h_t_one, .inr (6, [.ref h_t_one_near, .ref h_t_one_fans, .int t_one_nodes, .int t_one_darks, .long t_one_colours])), (h_t_one_fans, aJ T 6 t_one_fans), (h_t_two, .inr (6, [.ref h_t_two_near, .ref h_t_two_fans, .int t_two_nodes, .int t_two_darks, .long t_two_colours])), (h_t_two_fans, aJ T 6 t_two_fans)]) X [0, 1, 2, 3, 4] rfl rfl ?_
        exact hret _ _ _ dX4_pairNext_141 ⟨t_best_138, rfl, h⟩
      · have h := h.2 hc
        refine x_iload_n X dX4_pairNext_75 2 rfl ?_
        refine x_iload X dX4_pairNext_76 7 rfl ?_
        refine x_ishr X dX4_pairNext_78 ?_
        refine x_iconst (v := 1) X dX4_pairNext_79 (by decide) ?_
        refine x_iand X dX4_pairNext_80 ?_
        refine x_if_ne (tgt := 124) X dX4_pairNext_81 (by decide) (fun hc => ?_) (fun hc => ?_)
        · have h := h.1 hc
          exact x_sub X [0, 1, 2, 3, 4, 5, 6, 7] rfl (k124 x1 x2 x3 x4 x6 x9 x10 t_best h)
        · have h := h.2 hc
          refine x_lload X dX4_pairNext_84 5 rfl ?_
          refine x_iload X dX4_pairNext_86 7 rfl ?_
          refine x_callSI (av := [.long x6, .int x10]) (st := []) (wr := [(h_t, .inr (3, [.ref h_t_one, .ref h_t_two, .int t_code, .int t_best])), (h_t_one, .inr (6, [.ref h_t_one_near, .ref h_t_one_fans, .int t_one_nodes, .int t_one_darks, .long t_one_colours])), (h_t_one_fans, aJ T 6 t_one_fans), (h_t_two, .inr (6, [.ref h_t_two_near, .ref h_t_two_fans, .int t_two_nodes, .int t_two_darks, .long t_two_colours])), (h_t_two_fans, aJ T 6 t_two_fans)]) X (c_X7_block l D T  x6 x10 _ h) yk_X7_block tw_1113 dX4_pairNext_88 [] [0, 1, 2, 3, 4] rfl rfl rfl rfl (by decide) rfl rfl (Nat.le_of_ble_eq_true rfl) (by dsimp only [eR]; omega) (by dsimp only [eR]; omega) (Nat.zero_le _) (Nat.zero_le _) (fun r88 w1 hw => ?_)
          obtain ⟨rfl, h⟩ := hw
          refine x_perm (ws2 := [(h_t, .inr (3, [.ref h_t_one, .ref h_t_two, .int t_code, .int t_best])), (h_t_one, .inr (6, [.ref h_t_one_near, .ref h_t_one_fans, .int t_one_nodes, .int t_one_darks, .long t_one_colours])), (h_t_one_fans, aJ T 6 t_one_fans), (h_t_two, .inr (6, [.ref h_t_two_near, .ref h_t_two_fans, .int t_two_nodes, .int t_two_darks, .long t_two_colours])), (h_t_two_fans, aJ T 6 t_two_fans)]) X [0, 1, 2, 3, 4] rfl rfl ?_
          refine x_iload X dX4_pairNext_91 6 rfl ?_
          refine x_icmp_ne (tgt := 124) X dX4_pairNext_93 (by decide) (fun hc => ?_) (fun hc => ?_)
          · have h := h.1 hc
            exact x_sub X [0, 1, 2, 3, 4, 5, 6, 7] rfl (k124 x1 x2 x3 x4 x6 x9 x10 t_best h)
          · have h := h.2 hc
            refine x_aload_n X dX4_pairNext_96 0 rfl ?_
            refine x_iload_n X dX4_pairNext_97 1 rfl ?_
            refine x_iload_n X dX4_pairNext_98 2 rfl ?_
            refine x_iconst (v := 1) X dX4_pairNext_99 (by decide) ?_
            refine x_iload X dX4_pairNext_100 7 rfl ?_
            refine x_ishl X dX4_pairNext_102 ?_
            refine x_ior X dX4_pairNext_103 ?_
            refine x_iload_n X dX4_pairNext_104 3 rfl ?_
            refine x_lload X dX4_pairNext_105 4 rfl ?_
            refine x_lload X dX4_pairNext_107 5 rfl ?_
            refine x_iconst (v := 1) X dX4_pairNext_109 (by decide) ?_
            refine x_lshl X dX4_pairNext_110 ?_
            refine x_aload_n X dX4_pairNext_111 0 rfl ?_
            refine x_get X inGX4 1 (by decide) rfl tw_285 dX4_pairNext_112 rfl 0 rfl rfl ?_
            refine x_iload X dX4_pairNext_115 7 rfl ?_
            refine x_callVJ (av := [.int x10]) (st := [.long (x6 <<< ((1 : Int32).toInt64 &&& 63)), .long x4, .int x3, .int (x2 ||| ((1 : Int32) <<< (x10 &&& 31))), .int x1, .ref h_t]) (wr := [(h_t, .inr (3, [.ref h_t_one, .ref h_t_two, .int t_code, .int t_best])), (h_t_one, .inr (6, [.ref h_t_one_near, .ref h_t_one_fans, .int t_one_nodes, .int t_one_darks, .long t_one_colours])), (h_t_one_fans, aJ T 6 t_one_fans)]) X (c_X7_fan l D T h_t_two h_t_two_near h_t_two_fans t_two_colours t_two_darks t_two_nodes t_two_fans x10 _ h) yk_X7_fan tw_1119 dX4_pairNext_117 3 rfl rfl [3, 4] [0, 1, 2] rfl rfl rfl rfl (by decide) rfl rfl (Nat.le_of_ble_eq_true rfl) (by dsimp only [eR]; omega) (by dsimp only [eR]; omega) (Nat.zero_le _) (Nat.zero_le _) (fun r117 w1 hw => ?_)
            obtain ⟨rfl, h⟩ := hw
            refine x_perm (ws2 := [(h_t, .inr (3, [.ref h_t_one, .ref h_t_two, .int t_code, .int t_best])), (h_t_one, .inr (6, [.ref h_t_one_near, .ref h_t_one_fans, .int t_one_nodes, .int t_one_darks, .long t_one_colours])), (h_t_one_fans, aJ T 6 t_one_fans), (h_t_two, .inr (6, [.ref h_t_two_near, .ref h_t_two_fans, .int t_two_nodes, .int t_two_darks, .long t_two_colours])), (h_t_two_fans, aJ T 6 t_two_fans)]) X [0, 1, 2, 3, 4] rfl rfl ?_
            refine x_lor X dX4_pairNext_120 ?_
            refine x_callVV (av := [.int x1, .int (x2 ||| ((1 : Int32) <<< (x10 &&& 31))), .int x3, .long x4, .long ((x6 <<< ((1 : Int32).toInt64 &&& 63)) ||| r117)]) (st := []) (wr := []) X (c_X4_pair l D T h_t h_t_one h_t_two h_t_one_near h_t_one_fans h_t_two_near h_t_two_fans FA (3 * d + 1) (78 * d + 50) ih t_best t_code t_one_colours t_one_darks t_one_nodes t_one_fans t_two_colours t_two_darks t_two_nodes t_two_fans x1 (x2 ||| ((1 : Int32) <<< (x10 &&& 31))) x3 x4 ((x6 <<< ((1 : Int32).toInt64 &&& 63)) ||| r117) _ h) yk_X4_pair tw_1137 dX4_pairNext_121 0 rfl rfl [0, 1, 2, 3, 4] [] rfl rfl rfl rfl (by decide) rfl rfl (Nat.le_of_ble_eq_true rfl) (by dsimp only [eR]; omega) (by dsimp only [eR]; omega) (Nat.zero_le _) (Nat.zero_le _) (fun w1 hw => ?_)
            obtain ⟨t_best_121, rfl, h⟩ := hw
            refine x_perm (ws2 := [(h_t, .inr (3, [.ref h_t_one, .ref h_t_two, .int t_code, .int t_best_121])), (h_t_one, .inr (6, [.ref h_t_one_near, .ref h_t_one_fans, .int t_one_nodes, .int t_one_darks, .long t_one_colours])), (h_t_one_fans, aJ T 6 t_one_fans), (h_t_two, .inr (6, [.ref h_t_two_near, .ref h_t_two_fans, .int t_two_nodes, .int t_two_darks, .long t_two_colours])), (h_t_two_fans, aJ T 6 t_two_fans)]) X [0, 1, 2, 3, 4] rfl rfl ?_
            exact x_sub X [0, 1, 2, 3, 4, 5, 6, 7] rfl (k124 x1 x2 x3 x4 x6 x9 x10 t_best_121 h)
  refine x_aload_n X dX4_pairNext_0 0 rfl ?_
  refine x_aload_n X dX4_pairNext_1 0 rfl ?_
  refine x_get X inGX4 3 (by decide) rfl tw_287 dX4_pairNext_2 rfl 0 rfl rfl ?_
  refine x_iload_n X dX4_pairNext_5 3 rfl ?_
  refine x_mmax X tw_1135 tw_404 tw_12 tw_405 (by dsimp only [eR]; omega) (by dsimp only [eR]; omega) (Nat.le_of_ble_eq_true rfl) (Nat.zero_le _) (Nat.zero_le _) dX4_pairNext_6 ?_
  refine x_put (ws' := [(h_t, .inr (3, [.ref h_t_one, .ref h_t_two, .int t_code, .int (if t_best < p3 then p3 else t_best)])), (h_t_one, .inr (6, [.ref h_t_one_near, .ref h_t_one_fans, .int t_one_nodes, .int t_one_darks, .long t_one_colours])), (h_t_one_fans, aJ T 6 t_one_fans), (h_t_two, .inr (6, [.ref h_t_two_near, .ref h_t_two_fans, .int t_two_nodes, .int t_two_darks, .long t_two_colours])), (h_t_two_fans, aJ T 6 t_two_fans)]) X inGX4 tyX4_ok nmX4 3 (by decide) rfl tw_287 dX4_pairNext_9 rfl rfl 0 rfl rfl rfl (Nat.le_of_ble_eq_true rfl) rfl ?_
  refine x_aload_n X dX4_pairNext_12 0 rfl ?_
  refine x_get X inGX4 0 (by decide) rfl tw_284 dX4_pairNext_13 rfl 0 rfl rfl ?_
  refine x_getN X inGX7 2 (by decide) rfl tw_214 dX4_pairNext_16 rfl 1 rfl rfl ?_
  refine x_iload_n X dX4_pairNext_19 1 rfl ?_
  refine x_isub X dX4_pairNext_20 ?_
  refine x_aload_n X dX4_pairNext_21 0 rfl ?_
  refine x_get X inGX4 1 (by decide) rfl tw_285 dX4_pairNext_22 rfl 0 rfl rfl ?_
  refine x_getN X inGX7 2 (by decide) rfl tw_214 dX4_pairNext_25 rfl 3 rfl rfl ?_
  refine x_iload_n X dX4_pairNext_28 3 rfl ?_
  refine x_isub X dX4_pairNext_29 ?_
  refine x_mmin X tw_1136 tw_353 tw_12 tw_354 (by dsimp only [eR]; omega) (by dsimp only [eR]; omega) (Nat.le_of_ble_eq_true rfl) (Nat.zero_le _) (Nat.zero_le _) dX4_pairNext_30 ?_
  refine x_topi X (fun x8_33 e_x8_33 => ?_)
  have h := h x8_33 e_x8_33
  refine x_istore (lv' := [(8, .int x8_33), (0, .ref h_t), (1, .int p1), (2, .int p2), (3, .int p3), (4, .long p4), (6, .long p5)]) X dX4_pairNext_33 (by decide) rfl ?_
  refine x_iload X dX4_pairNext_35 0 rfl ?_
  refine x_if_le (tgt := 51) X dX4_pairNext_37 (by decide) (fun hc => ?_) (fun hc => ?_)
  · have h := h.1 hc
    exact x_sub X [] rfl (k51 (if t_best < p3 then p3 else t_best) h)
  · have h := h.2 hc
    refine x_iload_n X dX4_pairNext_40 4 rfl ?_
    refine x_iload X dX4_pairNext_41 0 rfl ?_
    refine x_iadd X dX4_pairNext_43 ?_
    refine x_aload_n X dX4_pairNext_44 1 rfl ?_
    refine x_get X inGX4 3 (by decide) rfl tw_287 dX4_pairNext_45 rfl 0 rfl rfl ?_
    refine x_icmp_gt (tgt := 52) X dX4_pairNext_48 (by decide) (fun hc => ?_) (fun hc => ?_)
    · have h := h.1 hc
      refine x_lload X dX4_pairNext_52 5 rfl ?_
      refine x_iload_n X dX4_pairNext_54 2 rfl ?_
      refine x_callSI (av := [.long p4, .int p1]) (st := []) (wr := [(h_t, .inr (3, [.ref h_t_one, .ref h_t_two, .int t_code, .int (if t_best < p3 then p3 else t_best)])), (h_t_one, .inr (6, [.ref h_t_one_near, .ref h_t_one_fans, .int t_one_nodes, .int t_one_darks, .long t_one_colours])), (h_t_one_fans, aJ T 6 t_one_fans), (h_t_two, .inr (6, [.ref h_t_two_near, .ref h_t_two_fans, .int t_two_nodes, .int t_two_darks, .long t_two_colours])), (h_t_two_fans, aJ T 6 t_two_fans)]) X (c_X7_block l D T  p4 p1 _ h) yk_X7_block tw_1113 dX4_pairNext_55 [] [0, 1, 2, 3, 4] rfl rfl rfl rfl (by decide) rfl rfl (Nat.le_of_ble_eq_true rfl) (by dsimp only [eR]; omega) (by dsimp only [eR]; omega) (Nat.zero_le _) (Nat.zero_le _) (fun r55 w1 hw => ?_)
      obtain ⟨rfl, h⟩ := hw
      refine x_perm (ws2 := [(h_t, .inr (3, [.ref h_t_one, .ref h_t_two, .int t_code, .int (if t_best < p3 then p3 else t_best)])), (h_t_one, .inr (6, [.ref h_t_one_near, .ref h_t_one_fans, .int t_one_nodes, .int t_one_darks, .long t_one_colours])), (h_t_one_fans, aJ T 6 t_one_fans), (h_t_two, .inr (6, [.ref h_t_two_near, .ref h_t_two_fans, .int t_two_nodes, .int t_two_darks, .long t_two_colours])), (h_t_two_fans, aJ T 6 t_two_fans)]) X [0, 1, 2, 3, 4] rfl rfl ?_
      refine x_istore (lv' := [(9, .int r55), (8, .int x8_33), (0, .ref h_t), (1, .int p1), (2, .int p2), (3, .int p3), (4, .long p4), (6, .long p5)]) X dX4_pairNext_58 (by decide) rfl ?_
      refine x_iconst (v := 0) X dX4_pairNext_60 (by decide) ?_
      refine x_istore (lv' := [(10, .int (0 : Int32)), (9, .int r55), (8, .int x8_33), (0, .ref h_t), (1, .int p1), (2, .int p2), (3, .int p3), (4, .long p4), (6, .long p5)]) X dX4_pairNext_61 (by decide) rfl ?_
      obtain ⟨n63, h⟩ := h
      exact x_sub X [3, 4, 5, 6, 7, 8, 1, 0] rfl (k63 n63 p1 p2 p3 p4 p5 r55 (0 : Int32) (if t_best < p3 then p3 else t_best) h)
    · have h := h.2 hc
      exact x_sub X [] rfl (k51 (if t_best < p3 then p3 else t_best) h)
theorem dX4_mostAlike_0 : decode cX4_mostAlike 0 = .ok (.aload_n 0, 1) := by decide +kernel
theorem dX4_mostAlike_1 : decode cX4_mostAlike 1 = .ok (.getfield 12, 3) := by decide +kernel
theorem dX4_mostAlike_4 : decode cX4_mostAlike 4 = .ok (.iload_n 1, 1) := by decide +kernel
theorem dX4_mostAlike_5 : decode cX4_mostAlike 5 = .ok (.iload_n 2, 1) := by decide +kernel
theorem dX4_mostAlike_6 : decode cX4_mostAlike 6 = .ok (.invokevirtual 27, 3) := by decide +kernel
theorem dX4_mostAlike_9 : decode cX4_mostAlike 9 = .ok (.aload_n 0, 1) := by decide +kernel
theorem dX4_mostAlike_10 : decode cX4_mostAlike 10 = .ok (.getfield 18, 3) := by decide +kernel
theorem dX4_mostAlike_13 : decode cX4_mostAlike 13 = .ok (.iload_n 3, 1) := by decide +kernel
theorem dX4_mostAlike_14 : decode cX4_mostAlike 14 = .ok (.iload 4, 2) := by decide +kernel
theorem dX4_mostAlike_16 : decode cX4_mostAlike 16 = .ok (.invokevirtual 27, 3) := by decide +kernel
theorem dX4_mostAlike_19 : decode cX4_mostAlike 19 = .ok (.aload_n 0, 1) := by decide +kernel
theorem dX4_mostAlike_20 : decode cX4_mostAlike 20 = .ok (.iconst 0, 1) := by decide +kernel
theorem dX4_mostAlike_21 : decode cX4_mostAlike 21 = .ok (.putfield 35, 3) := by decide +kernel
theorem dX4_mostAlike_24 : decode cX4_mostAlike 24 = .ok (.aload_n 0, 1) := by decide +kernel
theorem dX4_mostAlike_25 : decode cX4_mostAlike 25 = .ok (.iconst 0, 1) := by decide +kernel
theorem dX4_mostAlike_26 : decode cX4_mostAlike 26 = .ok (.iconst 0, 1) := by decide +kernel
theorem dX4_mostAlike_27 : decode cX4_mostAlike 27 = .ok (.iconst 0, 1) := by decide +kernel
theorem dX4_mostAlike_28 : decode cX4_mostAlike 28 = .ok (.aload_n 0, 1) := by decide +kernel
theorem dX4_mostAlike_29 : decode cX4_mostAlike 29 = .ok (.getfield 12, 3) := by decide +kernel
theorem dX4_mostAlike_32 : decode cX4_mostAlike 32 = .ok (.getfield 38, 3) := by decide +kernel
theorem dX4_mostAlike_35 : decode cX4_mostAlike 35 = .ok (.aload_n 0, 1) := by decide +kernel
theorem dX4_mostAlike_36 : decode cX4_mostAlike 36 = .ok (.getfield 18, 3) := by decide +kernel
theorem dX4_mostAlike_39 : decode cX4_mostAlike 39 = .ok (.getfield 38, 3) := by decide +kernel
theorem dX4_mostAlike_42 : decode cX4_mostAlike 42 = .ok (.invokevirtual 70, 3) := by decide +kernel
theorem dX4_mostAlike_45 : decode cX4_mostAlike 45 = .ok (.aload_n 0, 1) := by decide +kernel
theorem dX4_mostAlike_46 : decode cX4_mostAlike 46 = .ok (.getfield 35, 3) := by decide +kernel
theorem dX4_mostAlike_49 : decode cX4_mostAlike 49 = .ok (.ireturn, 1) := by decide +kernel
set_option maxHeartbeats 4000000 in
set_option maxRecDepth 100000 in
theorem c_X4_mostAlike (l : Launch) (D : eD) (T : Nat → ClassId) (h_t h_t_one h_t_two h_t_one_near h_t_one_fans h_t_two_near h_t_two_fans : Nat) (t_best : Int32) (t_code : Int32) (t_one_colours : Int64) (t_one_darks : Int32) (t_one_nodes : Int32) (t_one_fans : Nat → Int64) (t_one_near : Nat → Int32) (t_two_colours : Int64) (t_two_darks : Int32) (t_two_nodes : Int32) (t_two_fans : Nat → Int64) (t_two_near : Nat → Int32) (p1 : Int32) (p2 : Int32) (p3 : Int32) (p4 : Int32) (post : Int32 → Int32 → Int64 → Int32 → Int32 → (Nat → Int64) → (Nat → Int32) → Int64 → Int32 → Int32 → (Nat → Int64) → (Nat → Int32) → Prop) (h : F_X4_mostAlike t_best t_one_colours t_one_darks t_one_nodes t_one_fans t_one_near t_two_colours t_two_darks t_two_nodes t_two_fans t_two_near p1 p2 p3 p4 post) : cI l D T yX4_mostAlike cX4_mostAlike 5 (some .int) 32 860 0 0 [.ref h_t, .int p1, .int p2, .int p3, .int p4] [(h_t, .inr (3, [.ref h_t_one, .ref h_t_two, .int t_code, .int t_best])), (h_t_one, .inr (6, [.ref h_t_one_near, .ref h_t_one_fans, .int t_one_nodes, .int t_one_darks, .long t_one_colours])), (h_t_one_fans, aJ T 6 t_one_fans), (h_t_one_near, aI T 6 t_one_near), (h_t_two, .inr (6, [.ref h_t_two_near, .ref h_t_two_fans, .int t_two_nodes, .int t_two_darks, .long t_two_colours])), (h_t_two_fans, aJ T 6 t_two_fans), (h_t_two_near, aI T 6 t_two_near)] (fun r w1 => ∃ (t_best1 : Int32) (t_one_colours1 : Int64) (t_one_darks1 : Int32) (t_one_nodes1 : Int32) (t_one_fans1 : Nat → Int64) (t_one_near1 : Nat → Int32) (t_two_colours1 : Int64) (t_two_darks1 : Int32) (t_two_nodes1 : Int32) (t_two_fans1 : Nat → Int64) (t_two_near1 : Nat → Int32), w1 = [(h_t, .inr (3, [.ref h_t_one, .ref h_t_two, .int t_code, .int t_best1])), (h_t_one, .inr (6, [.ref h_t_one_near, .ref h_t_one_fans, .int t_one_nodes1, .int t_one_darks1, .long t_one_colours1])), (h_t_one_fans, aJ T 6 t_one_fans1), (h_t_one_near, aI T 6 t_one_near1), (h_t_two, .inr (6, [.ref h_t_two_near, .ref h_t_two_fans, .int t_two_nodes1, .int t_two_darks1, .long t_two_colours1])), (h_t_two_fans, aJ T 6 t_two_fans1), (h_t_two_near, aI T 6 t_two_near1)] ∧ post r t_best1 t_one_colours1 t_one_darks1 t_one_nodes1 t_one_fans1 t_one_near1 t_two_colours1 t_two_darks1 t_two_nodes1 t_two_fans1 t_two_near1) := by
  refine xI_of (ty := .int) (by decide +kernel) (Nat.le_of_ble_eq_true rfl) rfl ?_
  intro G X hret
  change G 0 0 0 [(0, .ref h_t), (1, .int p1), (2, .int p2), (3, .int p3), (4, .int p4)] [] [(h_t, .inr (3, [.ref h_t_one, .ref h_t_two, .int t_code, .int t_best])), (h_t_one, .inr (6, [.ref h_t_one_near, .ref h_t_one_fans, .int t_one_nodes, .int t_one_darks, .long t_one_colours])), (h_t_one_fans, aJ T 6 t_one_fans), (h_t_one_near, aI T 6 t_one_near), (h_t_two, .inr (6, [.ref h_t_two_near, .ref h_t_two_fans, .int t_two_nodes, .int t_two_darks, .long t_two_colours])), (h_t_two_fans, aJ T 6 t_two_fans), (h_t_two_near, aI T 6 t_two_near)]
  unfold F_X4_mostAlike at h
  refine x_aload_n X dX4_mostAlike_0 0 rfl ?_
  refine x_get X inGX4 0 (by decide) rfl tw_284 dX4_mostAlike_1 rfl 0 rfl rfl ?_
  refine x_iload_n X dX4_mostAlike_4 1 rfl ?_
  refine x_iload_n X dX4_mostAlike_5 2 rfl ?_
  refine x_callVV (av := [.int p1, .int p2]) (st := []) (wr := [(h_t, .inr (3, [.ref h_t_one, .ref h_t_two, .int t_code, .int t_best])), (h_t_two, .inr (6, [.ref h_t_two_near, .ref h_t_two_fans, .int t_two_nodes, .int t_two_darks, .long t_two_colours])), (h_t_two_fans, aJ T 6 t_two_fans), (h_t_two_near, aI T 6 t_two_near)]) X (c_X7_draw l D T h_t_one h_t_one_near h_t_one_fans t_one_colours t_one_darks t_one_nodes t_one_fans t_one_near p1 p2 _ h) yk_X7_draw tw_1107 dX4_mostAlike_6 1 rfl rfl [1, 2, 3] [0, 4, 5, 6] rfl rfl rfl rfl (by decide) rfl rfl (Nat.le_of_ble_eq_true rfl) (Nat.le_of_ble_eq_true rfl) (Nat.le_of_ble_eq_true rfl) (Nat.zero_le _) (Nat.zero_le _) (fun w1 hw => ?_)
  obtain ⟨t_one_colours_6, t_one_darks_6, t_one_nodes_6, t_one_fans_6, t_one_near_6, rfl, h⟩ := hw
  refine x_perm (ws2 := [(h_t, .inr (3, [.ref h_t_one, .ref h_t_two, .int t_code, .int t_best])), (h_t_one, .inr (6, [.ref h_t_one_near, .ref h_t_one_fans, .int t_one_nodes_6, .int t_one_darks_6, .long t_one_colours_6])), (h_t_one_fans, aJ T 6 t_one_fans_6), (h_t_one_near, aI T 6 t_one_near_6), (h_t_two, .inr (6, [.ref h_t_two_near, .ref h_t_two_fans, .int t_two_nodes, .int t_two_darks, .long t_two_colours])), (h_t_two_fans, aJ T 6 t_two_fans), (h_t_two_near, aI T 6 t_two_near)]) X [0, 4, 5, 6, 1, 2, 3] rfl rfl ?_
  refine x_aload_n X dX4_mostAlike_9 0 rfl ?_
  refine x_get X inGX4 1 (by decide) rfl tw_285 dX4_mostAlike_10 rfl 0 rfl rfl ?_
  refine x_iload_n X dX4_mostAlike_13 3 rfl ?_
  refine x_iload X dX4_mostAlike_14 4 rfl ?_
  refine x_callVV (av := [.int p3, .int p4]) (st := []) (wr := [(h_t, .inr (3, [.ref h_t_one, .ref h_t_two, .int t_code, .int t_best])), (h_t_one, .inr (6, [.ref h_t_one_near, .ref h_t_one_fans, .int t_one_nodes_6, .int t_one_darks_6, .long t_one_colours_6])), (h_t_one_fans, aJ T 6 t_one_fans_6), (h_t_one_near, aI T 6 t_one_near_6)]) X (c_X7_draw l D T h_t_two h_t_two_near h_t_two_fans t_two_colours t_two_darks t_two_nodes t_two_fans t_two_near p3 p4 _ h) yk_X7_draw tw_1107 dX4_mostAlike_16 4 rfl rfl [4, 5, 6] [0, 1, 2, 3] rfl rfl rfl rfl (by decide) rfl rfl (Nat.le_of_ble_eq_true rfl) (Nat.le_of_ble_eq_true rfl) (Nat.le_of_ble_eq_true rfl) (Nat.zero_le _) (Nat.zero_le _) (fun w1 hw => ?_)
  obtain ⟨t_two_colours_16, t_two_darks_16, t_two_nodes_16, t_two_fans_16, t_two_near_16, rfl, h⟩ := hw
  refine x_perm (ws2 := [(h_t, .inr (3, [.ref h_t_one, .ref h_t_two, .int t_code, .int t_best])), (h_t_one, .inr (6, [.ref h_t_one_near, .ref h_t_one_fans, .int t_one_nodes_6, .int t_one_darks_6, .long t_one_colours_6])), (h_t_one_fans, aJ T 6 t_one_fans_6), (h_t_one_near, aI T 6 t_one_near_6), (h_t_two, .inr (6, [.ref h_t_two_near, .ref h_t_two_fans, .int t_two_nodes_16, .int t_two_darks_16, .long t_two_colours_16])), (h_t_two_fans, aJ T 6 t_two_fans_16), (h_t_two_near, aI T 6 t_two_near_16)]) X [0, 1, 2, 3, 4, 5, 6] rfl rfl ?_
  refine x_aload_n X dX4_mostAlike_19 0 rfl ?_
  refine x_iconst (v := 0) X dX4_mostAlike_20 (by decide) ?_
  refine x_put (ws' := [(h_t, .inr (3, [.ref h_t_one, .ref h_t_two, .int t_code, .int (0 : Int32)])), (h_t_one, .inr (6, [.ref h_t_one_near, .ref h_t_one_fans, .int t_one_nodes_6, .int t_one_darks_6, .long t_one_colours_6])), (h_t_one_fans, aJ T 6 t_one_fans_6), (h_t_one_near, aI T 6 t_one_near_6), (h_t_two, .inr (6, [.ref h_t_two_near, .ref h_t_two_fans, .int t_two_nodes_16, .int t_two_darks_16, .long t_two_colours_16])), (h_t_two_fans, aJ T 6 t_two_fans_16), (h_t_two_near, aI T 6 t_two_near_16)]) X inGX4 tyX4_ok nmX4 3 (by decide) rfl tw_287 dX4_mostAlike_21 rfl rfl 0 rfl rfl rfl (Nat.le_of_ble_eq_true rfl) rfl ?_
  refine x_aload_n X dX4_mostAlike_24 0 rfl ?_
  refine x_iconst (v := 0) X dX4_mostAlike_25 (by decide) ?_
  refine x_iconst (v := 0) X dX4_mostAlike_26 (by decide) ?_
  refine x_iconst (v := 0) X dX4_mostAlike_27 (by decide) ?_
  refine x_aload_n X dX4_mostAlike_28 0 rfl ?_
  refine x_get X inGX4 0 (by decide) rfl tw_284 dX4_mostAlike_29 rfl 0 rfl rfl ?_
  refine x_getN X inGX7 4 (by decide) rfl tw_219 dX4_mostAlike_32 rfl 1 rfl rfl ?_
  refine x_aload_n X dX4_mostAlike_35 0 rfl ?_
  refine x_get X inGX4 1 (by decide) rfl tw_285 dX4_mostAlike_36 rfl 0 rfl rfl ?_
  refine x_getN X inGX7 4 (by decide) rfl tw_219 dX4_mostAlike_39 rfl 4 rfl rfl ?_
  refine x_callVV (av := [.int (0 : Int32), .int (0 : Int32), .int (0 : Int32), .long t_one_colours_6, .long t_two_colours_16]) (st := []) (wr := [(h_t_one_near, aI T 6 t_one_near_6), (h_t_two_near, aI T 6 t_two_near_16)]) X (c_X4_pairNext l D T h_t h_t_one h_t_two h_t_one_near h_t_one_fans h_t_two_near h_t_two_fans 10 (0 : Int32) t_code t_one_colours_6 t_one_darks_6 t_one_nodes_6 t_one_fans_6 t_two_colours_16 t_two_darks_16 t_two_nodes_16 t_two_fans_16 (0 : Int32) (0 : Int32) (0 : Int32) t_one_colours_6 t_two_colours_16 _ h) yk_X4_pairNext tw_1131 dX4_mostAlike_42 0 rfl rfl [0, 1, 2, 4, 5] [3, 6] rfl rfl rfl rfl (by decide) rfl rfl (Nat.le_of_ble_eq_true rfl) (Nat.le_of_ble_eq_true rfl) (Nat.le_of_ble_eq_true rfl) (Nat.zero_le _) (Nat.zero_le _) (fun w1 hw => ?_)
  obtain ⟨t_best_42, rfl, h⟩ := hw
  refine x_perm (ws2 := [(h_t, .inr (3, [.ref h_t_one, .ref h_t_two, .int t_code, .int t_best_42])), (h_t_one, .inr (6, [.ref h_t_one_near, .ref h_t_one_fans, .int t_one_nodes_6, .int t_one_darks_6, .long t_one_colours_6])), (h_t_one_fans, aJ T 6 t_one_fans_6), (h_t_one_near, aI T 6 t_one_near_6), (h_t_two, .inr (6, [.ref h_t_two_near, .ref h_t_two_fans, .int t_two_nodes_16, .int t_two_darks_16, .long t_two_colours_16])), (h_t_two_fans, aJ T 6 t_two_fans_16), (h_t_two_near, aI T 6 t_two_near_16)]) X [2, 3, 4, 0, 5, 6, 1] rfl rfl ?_
  refine x_aload_n X dX4_mostAlike_45 0 rfl ?_
  refine x_get X inGX4 3 (by decide) rfl tw_287 dX4_mostAlike_46 rfl 0 rfl rfl ?_
  exact hret _ _ _ _ dX4_mostAlike_49 rfl ⟨t_best_42, t_one_colours_6, t_one_darks_6, t_one_nodes_6, t_one_fans_6, t_one_near_6, t_two_colours_16, t_two_darks_16, t_two_nodes_16, t_two_fans_16, t_two_near_16, rfl, h⟩
