/-! OrderlyNets$Sketch: decode rows (printed), and each method kept by its F -/
theorem dX7_join_0 : decode cX7_join 0 = .ok (.iload_n 1, 1) := by decide +kernel
theorem dX7_join_1 : decode cX7_join 1 = .ok (.ifCond .lt 48, 3) := by decide +kernel
theorem dX7_join_4 : decode cX7_join 4 = .ok (.iload_n 1, 1) := by decide +kernel
theorem dX7_join_5 : decode cX7_join 5 = .ok (.aload_n 0, 1) := by decide +kernel
theorem dX7_join_6 : decode cX7_join 6 = .ok (.getfield 9, 3) := by decide +kernel
theorem dX7_join_9 : decode cX7_join 9 = .ok (.arraylength, 1) := by decide +kernel
theorem dX7_join_10 : decode cX7_join 10 = .ok (.if_icmp .ge 39, 3) := by decide +kernel
theorem dX7_join_13 : decode cX7_join 13 = .ok (.iload_n 1, 1) := by decide +kernel
theorem dX7_join_14 : decode cX7_join 14 = .ok (.aload_n 0, 1) := by decide +kernel
theorem dX7_join_15 : decode cX7_join 15 = .ok (.getfield 15, 3) := by decide +kernel
theorem dX7_join_18 : decode cX7_join 18 = .ok (.arraylength, 1) := by decide +kernel
theorem dX7_join_19 : decode cX7_join 19 = .ok (.if_icmp .ge 30, 3) := by decide +kernel
theorem dX7_join_22 : decode cX7_join 22 = .ok (.aload_n 0, 1) := by decide +kernel
theorem dX7_join_23 : decode cX7_join 23 = .ok (.getfield 9, 3) := by decide +kernel
theorem dX7_join_26 : decode cX7_join 26 = .ok (.iload_n 1, 1) := by decide +kernel
theorem dX7_join_27 : decode cX7_join 27 = .ok (.dup2, 1) := by decide +kernel
theorem dX7_join_28 : decode cX7_join 28 = .ok (.iaload, 1) := by decide +kernel
theorem dX7_join_29 : decode cX7_join 29 = .ok (.iconst 1, 1) := by decide +kernel
theorem dX7_join_30 : decode cX7_join 30 = .ok (.iload_n 2, 1) := by decide +kernel
theorem dX7_join_31 : decode cX7_join 31 = .ok (.ishl, 1) := by decide +kernel
theorem dX7_join_32 : decode cX7_join 32 = .ok (.ior, 1) := by decide +kernel
theorem dX7_join_33 : decode cX7_join 33 = .ok (.iastore, 1) := by decide +kernel
theorem dX7_join_34 : decode cX7_join 34 = .ok (.aload_n 0, 1) := by decide +kernel
theorem dX7_join_35 : decode cX7_join 35 = .ok (.getfield 15, 3) := by decide +kernel
theorem dX7_join_38 : decode cX7_join 38 = .ok (.iload_n 1, 1) := by decide +kernel
theorem dX7_join_39 : decode cX7_join 39 = .ok (.dup2, 1) := by decide +kernel
theorem dX7_join_40 : decode cX7_join 40 = .ok (.laload, 1) := by decide +kernel
theorem dX7_join_41 : decode cX7_join 41 = .ok (.lconst 1, 1) := by decide +kernel
theorem dX7_join_42 : decode cX7_join 42 = .ok (.bipush 8, 2) := by decide +kernel
theorem dX7_join_44 : decode cX7_join 44 = .ok (.iload_n 2, 1) := by decide +kernel
theorem dX7_join_45 : decode cX7_join 45 = .ok (.imul, 1) := by decide +kernel
theorem dX7_join_46 : decode cX7_join 46 = .ok (.lshl, 1) := by decide +kernel
theorem dX7_join_47 : decode cX7_join 47 = .ok (.lor, 1) := by decide +kernel
theorem dX7_join_48 : decode cX7_join 48 = .ok (.lastore, 1) := by decide +kernel
theorem dX7_join_49 : decode cX7_join 49 = .ok (.return_, 1) := by decide +kernel
set_option maxHeartbeats 4000000 in
set_option maxRecDepth 100000 in
theorem c_X7_join (l : Launch) (D : eD) (T : Nat → ClassId) (h_t h_t_near h_t_fans : Nat) (t_colours : Int64) (t_darks : Int32) (t_nodes : Int32) (t_fans : Nat → Int64) (t_near : Nat → Int32) (p1 : Int32) (p2 : Int32) (post : (Nat → Int64) → (Nat → Int32) → Prop) (h : F_X7_join t_fans t_near p1 p2 post) : cV l D T yX7_join cX7_join 3 none 0 0 0 0 [.ref h_t, .int p1, .int p2] [(h_t, .inr (6, [.ref h_t_near, .ref h_t_fans, .int t_nodes, .int t_darks, .long t_colours])), (h_t_fans, aJ T 6 t_fans), (h_t_near, aI T 6 t_near)] (fun w1 => ∃ (t_fans1 : Nat → Int64) (t_near1 : Nat → Int32), w1 = [(h_t, .inr (6, [.ref h_t_near, .ref h_t_fans, .int t_nodes, .int t_darks, .long t_colours])), (h_t_fans, aJ T 6 t_fans1), (h_t_near, aI T 6 t_near1)] ∧ post t_fans1 t_near1) := by
  refine xV_of (by decide +kernel) (Nat.le_of_ble_eq_true rfl) rfl ?_
  intro G X hret
  change G 0 0 0 [(0, .ref h_t), (1, .int p1), (2, .int p2)] [] [(h_t, .inr (6, [.ref h_t_near, .ref h_t_fans, .int t_nodes, .int t_darks, .long t_colours])), (h_t_fans, aJ T 6 t_fans), (h_t_near, aI T 6 t_near)]
  unfold F_X7_join at h
  have k49 : ∀ (t_fans : Nat → Int64) (t_near : Nat → Int32), F_X7_join_49 post t_fans t_near → G 0 0 49 [] [] [(h_t, .inr (6, [.ref h_t_near, .ref h_t_fans, .int t_nodes, .int t_darks, .long t_colours])), (h_t_fans, aJ T 6 t_fans), (h_t_near, aI T 6 t_near)] := by
    intro t_fans t_near h
    unfold F_X7_join_49 at h
    exact hret _ _ _ dX7_join_49 ⟨t_fans, t_near, rfl, h⟩
  refine x_iload_n X dX7_join_0 1 rfl ?_
  refine x_if_lt (tgt := 49) X dX7_join_1 (by decide) (fun hc => ?_) (fun hc => ?_)
  · have h := h.1 hc
    exact x_sub X [] rfl (k49 t_fans t_near h)
  · have h := h.2 hc
    refine x_iload_n X dX7_join_4 1 rfl ?_
    refine x_aload_n X dX7_join_5 0 rfl ?_
    refine x_get X inGX7 0 (by decide) rfl tw_211 dX7_join_6 rfl 0 rfl rfl ?_
    refine x_alen (v := (6 : Int32)) X dX7_join_9 2 1 rfl rfl rfl ?_
    refine x_icmp_ge (tgt := 49) X dX7_join_10 (by decide) (fun hc => ?_) (fun hc => ?_)
    · have h := h.1 hc
      exact x_sub X [] rfl (k49 t_fans t_near h)
    · have h := h.2 hc
      refine x_iload_n X dX7_join_13 1 rfl ?_
      refine x_aload_n X dX7_join_14 0 rfl ?_
      refine x_get X inGX7 1 (by decide) rfl tw_212 dX7_join_15 rfl 0 rfl rfl ?_
      refine x_alen (v := (6 : Int32)) X dX7_join_18 1 2 rfl rfl rfl ?_
      refine x_icmp_ge (tgt := 49) X dX7_join_19 (by decide) (fun hc => ?_) (fun hc => ?_)
      · have h := h.1 hc
        exact x_sub X [] rfl (k49 t_fans t_near h)
      · have h := h.2 hc
        refine x_aload_n X dX7_join_22 0 rfl ?_
        refine x_get X inGX7 0 (by decide) rfl tw_211 dX7_join_23 rfl 0 rfl rfl ?_
        refine x_iload_n X dX7_join_26 1 rfl ?_
        refine x_dup2 X dX7_join_27 rfl rfl ?_
        obtain ⟨hi, h⟩ := h
        refine x_iald X dX7_join_28 2 rfl hi ?_
        refine x_iconst (v := 1) X dX7_join_29 (by decide) ?_
        refine x_iload_n X dX7_join_30 2 rfl ?_
        refine x_ishl X dX7_join_31 ?_
        refine x_ior X dX7_join_32 ?_
        obtain ⟨hi, h⟩ := h
        refine x_iast (ws' := [(h_t, .inr (6, [.ref h_t_near, .ref h_t_fans, .int t_nodes, .int t_darks, .long t_colours])), (h_t_fans, aJ T 6 t_fans), (h_t_near, aI T 6 (upd t_near p1.toNatClampNeg ((t_near p1.toNatClampNeg) ||| ((1 : Int32) <<< (p2 &&& 31)))))]) X dX7_join_33 2 rfl hi rfl ?_
        refine x_aload_n X dX7_join_34 0 rfl ?_
        refine x_get X inGX7 1 (by decide) rfl tw_212 dX7_join_35 rfl 0 rfl rfl ?_
        refine x_iload_n X dX7_join_38 1 rfl ?_
        refine x_dup2 X dX7_join_39 rfl rfl ?_
        obtain ⟨hi, h⟩ := h
        refine x_lald X dX7_join_40 1 rfl hi ?_
        refine x_lconst (v := 1) X dX7_join_41 (by decide) ?_
        refine x_bipush (v := 8) X dX7_join_42 (by decide) ?_
        refine x_iload_n X dX7_join_44 2 rfl ?_
        refine x_imul X dX7_join_45 ?_
        refine x_lshl X dX7_join_46 ?_
        refine x_lor X dX7_join_47 ?_
        obtain ⟨hi, h⟩ := h
        refine x_last (ws' := [(h_t, .inr (6, [.ref h_t_near, .ref h_t_fans, .int t_nodes, .int t_darks, .long t_colours])), (h_t_fans, aJ T 6 (vp_updL t_fans p1.toNatClampNeg ((t_fans p1.toNatClampNeg) ||| ((1 : Int64) <<< (((8 : Int32) * p2).toInt64 &&& 63))))), (h_t_near, aI T 6 (upd t_near p1.toNatClampNeg ((t_near p1.toNatClampNeg) ||| ((1 : Int32) <<< (p2 &&& 31)))))]) X dX7_join_48 1 rfl hi rfl ?_
        exact x_sub X [] rfl (k49 (vp_updL t_fans p1.toNatClampNeg ((t_fans p1.toNatClampNeg) ||| ((1 : Int64) <<< (((8 : Int32) * p2).toInt64 &&& 63)))) (upd t_near p1.toNatClampNeg ((t_near p1.toNatClampNeg) ||| ((1 : Int32) <<< (p2 &&& 31)))) h)
theorem dX7_draw_0 : decode cX7_draw 0 = .ok (.aload_n 0, 1) := by decide +kernel
theorem dX7_draw_1 : decode cX7_draw 1 = .ok (.iload_n 1, 1) := by decide +kernel
theorem dX7_draw_2 : decode cX7_draw 2 = .ok (.bipush 6, 2) := by decide +kernel
theorem dX7_draw_4 : decode cX7_draw 4 = .ok (.invokestatic 19, 3) := by decide +kernel
theorem dX7_draw_7 : decode cX7_draw 7 = .ok (.putfield 25, 3) := by decide +kernel
theorem dX7_draw_10 : decode cX7_draw 10 = .ok (.aload_n 0, 1) := by decide +kernel
theorem dX7_draw_11 : decode cX7_draw 11 = .ok (.iconst 0, 1) := by decide +kernel
theorem dX7_draw_12 : decode cX7_draw 12 = .ok (.putfield 29, 3) := by decide +kernel
theorem dX7_draw_15 : decode cX7_draw 15 = .ok (.aload_n 0, 1) := by decide +kernel
theorem dX7_draw_16 : decode cX7_draw 16 = .ok (.lconst 0, 1) := by decide +kernel
theorem dX7_draw_17 : decode cX7_draw 17 = .ok (.putfield 32, 3) := by decide +kernel
theorem dX7_draw_20 : decode cX7_draw 20 = .ok (.iconst 0, 1) := by decide +kernel
theorem dX7_draw_21 : decode cX7_draw 21 = .ok (.istore_n 3, 1) := by decide +kernel
theorem dX7_draw_22 : decode cX7_draw 22 = .ok (.iload_n 3, 1) := by decide +kernel
theorem dX7_draw_23 : decode cX7_draw 23 = .ok (.aload_n 0, 1) := by decide +kernel
theorem dX7_draw_24 : decode cX7_draw 24 = .ok (.getfield 25, 3) := by decide +kernel
theorem dX7_draw_27 : decode cX7_draw 27 = .ok (.if_icmp .ge 23, 3) := by decide +kernel
theorem dX7_draw_30 : decode cX7_draw 30 = .ok (.aload_n 0, 1) := by decide +kernel
theorem dX7_draw_31 : decode cX7_draw 31 = .ok (.getfield 9, 3) := by decide +kernel
theorem dX7_draw_34 : decode cX7_draw 34 = .ok (.iload_n 3, 1) := by decide +kernel
theorem dX7_draw_35 : decode cX7_draw 35 = .ok (.iconst 0, 1) := by decide +kernel
theorem dX7_draw_36 : decode cX7_draw 36 = .ok (.iastore, 1) := by decide +kernel
theorem dX7_draw_37 : decode cX7_draw 37 = .ok (.aload_n 0, 1) := by decide +kernel
theorem dX7_draw_38 : decode cX7_draw 38 = .ok (.getfield 15, 3) := by decide +kernel
theorem dX7_draw_41 : decode cX7_draw 41 = .ok (.iload_n 3, 1) := by decide +kernel
theorem dX7_draw_42 : decode cX7_draw 42 = .ok (.lconst 0, 1) := by decide +kernel
theorem dX7_draw_43 : decode cX7_draw 43 = .ok (.lastore, 1) := by decide +kernel
theorem dX7_draw_44 : decode cX7_draw 44 = .ok (.iinc 3 1, 3) := by decide +kernel
theorem dX7_draw_47 : decode cX7_draw 47 = .ok (.goto (-25), 3) := by decide +kernel
theorem dX7_draw_50 : decode cX7_draw 50 = .ok (.aload_n 0, 1) := by decide +kernel
theorem dX7_draw_51 : decode cX7_draw 51 = .ok (.getfield 25, 3) := by decide +kernel
theorem dX7_draw_54 : decode cX7_draw 54 = .ok (.invokestatic 36, 3) := by decide +kernel
theorem dX7_draw_57 : decode cX7_draw 57 = .ok (.iconst 1, 1) := by decide +kernel
theorem dX7_draw_58 : decode cX7_draw 58 = .ok (.isub, 1) := by decide +kernel
theorem dX7_draw_59 : decode cX7_draw 59 = .ok (.istore_n 3, 1) := by decide +kernel
theorem dX7_draw_60 : decode cX7_draw 60 = .ok (.iconst 0, 1) := by decide +kernel
theorem dX7_draw_61 : decode cX7_draw 61 = .ok (.istore 4, 2) := by decide +kernel
theorem dX7_draw_63 : decode cX7_draw 63 = .ok (.iload 4, 2) := by decide +kernel
theorem dX7_draw_65 : decode cX7_draw 65 = .ok (.aload_n 0, 1) := by decide +kernel
theorem dX7_draw_66 : decode cX7_draw 66 = .ok (.getfield 25, 3) := by decide +kernel
theorem dX7_draw_69 : decode cX7_draw 69 = .ok (.if_icmp .ge 95, 3) := by decide +kernel
theorem dX7_draw_72 : decode cX7_draw 72 = .ok (.iload_n 2, 1) := by decide +kernel
theorem dX7_draw_73 : decode cX7_draw 73 = .ok (.iload_n 3, 1) := by decide +kernel
theorem dX7_draw_74 : decode cX7_draw 74 = .ok (.ishr, 1) := by decide +kernel
theorem dX7_draw_75 : decode cX7_draw 75 = .ok (.iconst 1, 1) := by decide +kernel
theorem dX7_draw_76 : decode cX7_draw 76 = .ok (.iand, 1) := by decide +kernel
theorem dX7_draw_77 : decode cX7_draw 77 = .ok (.istore 5, 2) := by decide +kernel
theorem dX7_draw_79 : decode cX7_draw 79 = .ok (.aload_n 0, 1) := by decide +kernel
theorem dX7_draw_80 : decode cX7_draw 80 = .ok (.dup, 1) := by decide +kernel
theorem dX7_draw_81 : decode cX7_draw 81 = .ok (.getfield 29, 3) := by decide +kernel
theorem dX7_draw_84 : decode cX7_draw 84 = .ok (.iload 5, 2) := by decide +kernel
theorem dX7_draw_86 : decode cX7_draw 86 = .ok (.iload 4, 2) := by decide +kernel
theorem dX7_draw_88 : decode cX7_draw 88 = .ok (.ishl, 1) := by decide +kernel
theorem dX7_draw_89 : decode cX7_draw 89 = .ok (.ior, 1) := by decide +kernel
theorem dX7_draw_90 : decode cX7_draw 90 = .ok (.putfield 29, 3) := by decide +kernel
theorem dX7_draw_93 : decode cX7_draw 93 = .ok (.aload_n 0, 1) := by decide +kernel
theorem dX7_draw_94 : decode cX7_draw 94 = .ok (.dup, 1) := by decide +kernel
theorem dX7_draw_95 : decode cX7_draw 95 = .ok (.getfield 32, 3) := by decide +kernel
theorem dX7_draw_98 : decode cX7_draw 98 = .ok (.iload 5, 2) := by decide +kernel
theorem dX7_draw_100 : decode cX7_draw 100 = .ok (.i2l, 1) := by decide +kernel
theorem dX7_draw_101 : decode cX7_draw 101 = .ok (.bipush 8, 2) := by decide +kernel
theorem dX7_draw_103 : decode cX7_draw 103 = .ok (.iload 4, 2) := by decide +kernel
theorem dX7_draw_105 : decode cX7_draw 105 = .ok (.imul, 1) := by decide +kernel
theorem dX7_draw_106 : decode cX7_draw 106 = .ok (.lshl, 1) := by decide +kernel
theorem dX7_draw_107 : decode cX7_draw 107 = .ok (.lor, 1) := by decide +kernel
theorem dX7_draw_108 : decode cX7_draw 108 = .ok (.putfield 32, 3) := by decide +kernel
theorem dX7_draw_111 : decode cX7_draw 111 = .ok (.iinc 3 (-1), 3) := by decide +kernel
theorem dX7_draw_114 : decode cX7_draw 114 = .ok (.iconst 0, 1) := by decide +kernel
theorem dX7_draw_115 : decode cX7_draw 115 = .ok (.istore 6, 2) := by decide +kernel
theorem dX7_draw_117 : decode cX7_draw 117 = .ok (.iload 6, 2) := by decide +kernel
theorem dX7_draw_119 : decode cX7_draw 119 = .ok (.iload 4, 2) := by decide +kernel
theorem dX7_draw_121 : decode cX7_draw 121 = .ok (.if_icmp .ge 37, 3) := by decide +kernel
theorem dX7_draw_124 : decode cX7_draw 124 = .ok (.iload_n 2, 1) := by decide +kernel
theorem dX7_draw_125 : decode cX7_draw 125 = .ok (.iload_n 3, 1) := by decide +kernel
theorem dX7_draw_126 : decode cX7_draw 126 = .ok (.ishr, 1) := by decide +kernel
theorem dX7_draw_127 : decode cX7_draw 127 = .ok (.iconst 1, 1) := by decide +kernel
theorem dX7_draw_128 : decode cX7_draw 128 = .ok (.iand, 1) := by decide +kernel
theorem dX7_draw_129 : decode cX7_draw 129 = .ok (.iconst 1, 1) := by decide +kernel
theorem dX7_draw_130 : decode cX7_draw 130 = .ok (.if_icmp .ne 19, 3) := by decide +kernel
theorem dX7_draw_133 : decode cX7_draw 133 = .ok (.aload_n 0, 1) := by decide +kernel
theorem dX7_draw_134 : decode cX7_draw 134 = .ok (.iload 6, 2) := by decide +kernel
theorem dX7_draw_136 : decode cX7_draw 136 = .ok (.iload 4, 2) := by decide +kernel
theorem dX7_draw_138 : decode cX7_draw 138 = .ok (.invokevirtual 42, 3) := by decide +kernel
theorem dX7_draw_141 : decode cX7_draw 141 = .ok (.aload_n 0, 1) := by decide +kernel
theorem dX7_draw_142 : decode cX7_draw 142 = .ok (.iload 4, 2) := by decide +kernel
theorem dX7_draw_144 : decode cX7_draw 144 = .ok (.iload 6, 2) := by decide +kernel
theorem dX7_draw_146 : decode cX7_draw 146 = .ok (.invokevirtual 42, 3) := by decide +kernel
theorem dX7_draw_149 : decode cX7_draw 149 = .ok (.iinc 3 (-1), 3) := by decide +kernel
theorem dX7_draw_152 : decode cX7_draw 152 = .ok (.iinc 6 1, 3) := by decide +kernel
theorem dX7_draw_155 : decode cX7_draw 155 = .ok (.goto (-38), 3) := by decide +kernel
theorem dX7_draw_158 : decode cX7_draw 158 = .ok (.iinc 4 1, 3) := by decide +kernel
theorem dX7_draw_161 : decode cX7_draw 161 = .ok (.goto (-98), 3) := by decide +kernel
theorem dX7_draw_164 : decode cX7_draw 164 = .ok (.return_, 1) := by decide +kernel
set_option maxHeartbeats 4000000 in
set_option maxRecDepth 100000 in
theorem c_X7_draw (l : Launch) (D : eD) (T : Nat → ClassId) (h_t h_t_near h_t_fans : Nat) (t_colours : Int64) (t_darks : Int32) (t_nodes : Int32) (t_fans : Nat → Int64) (t_near : Nat → Int32) (p1 : Int32) (p2 : Int32) (post : Int64 → Int32 → Int32 → (Nat → Int64) → (Nat → Int32) → Prop) (h : F_X7_draw t_colours t_darks t_nodes t_fans t_near p1 p2 post) : cV l D T yX7_draw cX7_draw 7 none 1 50 0 0 [.ref h_t, .int p1, .int p2] [(h_t, .inr (6, [.ref h_t_near, .ref h_t_fans, .int t_nodes, .int t_darks, .long t_colours])), (h_t_fans, aJ T 6 t_fans), (h_t_near, aI T 6 t_near)] (fun w1 => ∃ (t_colours1 : Int64) (t_darks1 : Int32) (t_nodes1 : Int32) (t_fans1 : Nat → Int64) (t_near1 : Nat → Int32), w1 = [(h_t, .inr (6, [.ref h_t_near, .ref h_t_fans, .int t_nodes1, .int t_darks1, .long t_colours1])), (h_t_fans, aJ T 6 t_fans1), (h_t_near, aI T 6 t_near1)] ∧ post t_colours1 t_darks1 t_nodes1 t_fans1 t_near1) := by
  refine xV_of (by decide +kernel) (Nat.le_of_ble_eq_true rfl) rfl ?_
  intro G X hret
  change G 0 0 0 [(0, .ref h_t), (1, .int p1), (2, .int p2)] [] [(h_t, .inr (6, [.ref h_t_near, .ref h_t_fans, .int t_nodes, .int t_darks, .long t_colours])), (h_t_fans, aJ T 6 t_fans), (h_t_near, aI T 6 t_near)]
  unfold F_X7_draw at h
  have k22 : ∀ (n22 : Nat) (x2 : Int32) (x3 : Int32) (t_colours : Int64) (t_darks : Int32) (t_nodes : Int32) (t_fans : Nat → Int64) (t_near : Nat → Int32), F_X7_draw_22 post n22 x2 x3 t_colours t_darks t_nodes t_fans t_near → G 0 0 22 [(0, .ref h_t), (2, .int x2), (3, .int x3)] [] [(h_t, .inr (6, [.ref h_t_near, .ref h_t_fans, .int t_nodes, .int t_darks, .long t_colours])), (h_t_fans, aJ T 6 t_fans), (h_t_near, aI T 6 t_near)] := by
    intro n22
    induction n22 with
    | zero => intro x2 x3 t_colours t_darks t_nodes t_fans t_near h; exact h.elim
    | succ n22 ih22 =>
      intro x2 x3 t_colours t_darks t_nodes t_fans t_near h
      rw [F_X7_draw_22] at h
      have k63 : ∀ (n63 : Nat) (x2 : Int32) (x3 : Int32) (x4 : Int32) (t_colours : Int64) (t_darks : Int32) (t_nodes : Int32) (t_fans : Nat → Int64) (t_near : Nat → Int32), F_X7_draw_63 post n63 x2 x3 x4 t_colours t_darks t_nodes t_fans t_near → G 0 0 63 [(0, .ref h_t), (2, .int x2), (3, .int x3), (4, .int x4)] [] [(h_t, .inr (6, [.ref h_t_near, .ref h_t_fans, .int t_nodes, .int t_darks, .long t_colours])), (h_t_fans, aJ T 6 t_fans), (h_t_near, aI T 6 t_near)] := by
        intro n63
        induction n63 with
        | zero => intro x2 x3 x4 t_colours t_darks t_nodes t_fans t_near h; exact h.elim
        | succ n63 ih63 =>
          intro x2 x3 x4 t_colours t_darks t_nodes t_fans t_near h
          rw [F_X7_draw_63] at h
          have k117 : ∀ (n117 : Nat) (x2 : Int32) (x3 : Int32) (x4 : Int32) (x6 : Int32) (t_colours : Int64) (t_darks : Int32) (t_nodes : Int32) (t_fans : Nat → Int64) (t_near : Nat → Int32), F_X7_draw_117 post (F_X7_draw_63 post n63) n117 x2 x3 x4 x6 t_colours t_darks t_nodes t_fans t_near → G 0 0 117 [(0, .ref h_t), (2, .int x2), (3, .int x3), (4, .int x4), (6, .int x6)] [] [(h_t, .inr (6, [.ref h_t_near, .ref h_t_fans, .int t_nodes, .int t_darks, .long t_colours])), (h_t_fans, aJ T 6 t_fans), (h_t_near, aI T 6 t_near)] := by
            intro n117
            induction n117 with
            | zero => intro x2 x3 x4 x6 t_colours t_darks t_nodes t_fans t_near h; exact h.elim
            | succ n117 ih117 =>
              intro x2 x3 x4 x6 t_colours t_darks t_nodes t_fans t_near h
              rw [F_X7_draw_117] at h
              have k149 : ∀ (x2 : Int32) (x3 : Int32) (x4 : Int32) (x6 : Int32) (t_colours : Int64) (t_darks : Int32) (t_nodes : Int32) (t_fans : Nat → Int64) (t_near : Nat → Int32), F_X7_draw_149 post (F_X7_draw_117 post (F_X7_draw_63 post n63) n117) x2 x3 x4 x6 t_colours t_darks t_nodes t_fans t_near → G 0 0 149 [(0, .ref h_t), (2, .int x2), (3, .int x3), (4, .int x4), (6, .int x6)] [] [(h_t, .inr (6, [.ref h_t_near, .ref h_t_fans, .int t_nodes, .int t_darks, .long t_colours])), (h_t_fans, aJ T 6 t_fans), (h_t_near, aI T 6 t_near)] := by
                intro x2 x3 x4 x6 t_colours t_darks t_nodes t_fans t_near h
                unfold F_X7_draw_149 at h
                refine x_iinc (v := (x3 + (-1))) (lv' := [(3, .int (x3 + (-1))), (0, .ref h_t), (2, .int x2), (4, .int x4), (6, .int x6)]) X dX7_draw_149 2 rfl rfl (by decide) rfl ?_
                refine x_iinc (v := (x6 + 1)) (lv' := [(6, .int (x6 + 1)), (3, .int (x3 + (-1))), (0, .ref h_t), (2, .int x2), (4, .int x4)]) X dX7_draw_152 4 rfl rfl (by decide) rfl ?_
                refine x_goto (tgt := 117) X dX7_draw_155 (by decide) ?_
                exact x_sub X [2, 3, 1, 4, 0] rfl (ih117 x2 (x3 + (-1)) x4 (x6 + 1) t_colours t_darks t_nodes t_fans t_near h)
              refine x_iload X dX7_draw_117 4 rfl ?_
              refine x_iload X dX7_draw_119 3 rfl ?_
              refine x_icmp_ge (tgt := 158) X dX7_draw_121 (by decide) (fun hc => ?_) (fun hc => ?_)
              · have h := h.1 hc
                refine x_iinc (v := (x4 + 1)) (lv' := [(4, .int (x4 + 1)), (0, .ref h_t), (2, .int x2), (3, .int x3), (6, .int x6)]) X dX7_draw_158 3 rfl rfl (by decide) rfl ?_
                refine x_goto (tgt := 63) X dX7_draw_161 (by decide) ?_
                exact x_sub X [1, 2, 3, 0] rfl (ih63 x2 x3 (x4 + 1) t_colours t_darks t_nodes t_fans t_near h)
              · have h := h.2 hc
                refine x_iload_n X dX7_draw_124 1 rfl ?_
                refine x_iload_n X dX7_draw_125 2 rfl ?_
                refine x_ishr X dX7_draw_126 ?_
                refine x_iconst (v := 1) X dX7_draw_127 (by decide) ?_
                refine x_iand X dX7_draw_128 ?_
                refine x_iconst (v := 1) X dX7_draw_129 (by decide) ?_
                refine x_icmp_ne (tgt := 149) X dX7_draw_130 (by decide) (fun hc => ?_) (fun hc => ?_)
                · have h := h.1 hc
                  exact x_sub X [0, 1, 2, 3, 4] rfl (k149 x2 x3 x4 x6 t_colours t_darks t_nodes t_fans t_near h)
                · have h := h.2 hc
                  refine x_aload_n X dX7_draw_133 0 rfl ?_
                  refine x_iload X dX7_draw_134 4 rfl ?_
                  refine x_iload X dX7_draw_136 3 rfl ?_
                  refine x_callVV (av := [.int x6, .int x4]) (st := []) (wr := []) X (c_X7_join l D T h_t h_t_near h_t_fans t_colours t_darks t_nodes t_fans t_near x6 x4 _ h) yk_X7_join tw_358 dX7_draw_138 0 rfl rfl [0, 1, 2] [] rfl rfl rfl rfl (by decide) rfl rfl (Nat.le_of_ble_eq_true rfl) (Nat.le_of_ble_eq_true rfl) (Nat.le_of_ble_eq_true rfl) (Nat.zero_le _) (Nat.zero_le _) (fun w1 hw => ?_)
                  obtain ⟨t_fans_138, t_near_138, rfl, h⟩ := hw
                  refine x_perm (ws2 := [(h_t, .inr (6, [.ref h_t_near, .ref h_t_fans, .int t_nodes, .int t_darks, .long t_colours])), (h_t_fans, aJ T 6 t_fans_138), (h_t_near, aI T 6 t_near_138)]) X [0, 1, 2] rfl rfl ?_
                  refine x_aload_n X dX7_draw_141 0 rfl ?_
                  refine x_iload X dX7_draw_142 3 rfl ?_
                  refine x_iload X dX7_draw_144 4 rfl ?_
                  refine x_callVV (av := [.int x4, .int x6]) (st := []) (wr := []) X (c_X7_join l D T h_t h_t_near h_t_fans t_colours t_darks t_nodes t_fans_138 t_near_138 x4 x6 _ h) yk_X7_join tw_358 dX7_draw_146 0 rfl rfl [0, 1, 2] [] rfl rfl rfl rfl (by decide) rfl rfl (Nat.le_of_ble_eq_true rfl) (Nat.le_of_ble_eq_true rfl) (Nat.le_of_ble_eq_true rfl) (Nat.zero_le _) (Nat.zero_le _) (fun w1 hw => ?_)
                  obtain ⟨t_fans_146, t_near_146, rfl, h⟩ := hw
                  refine x_perm (ws2 := [(h_t, .inr (6, [.ref h_t_near, .ref h_t_fans, .int t_nodes, .int t_darks, .long t_colours])), (h_t_fans, aJ T 6 t_fans_146), (h_t_near, aI T 6 t_near_146)]) X [0, 1, 2] rfl rfl ?_
                  exact x_sub X [0, 1, 2, 3, 4] rfl (k149 x2 x3 x4 x6 t_colours t_darks t_nodes t_fans_146 t_near_146 h)
          refine x_iload X dX7_draw_63 3 rfl ?_
          refine x_aload_n X dX7_draw_65 0 rfl ?_
          refine x_get X inGX7 2 (by decide) rfl tw_213 dX7_draw_66 rfl 0 rfl rfl ?_
          refine x_icmp_ge (tgt := 164) X dX7_draw_69 (by decide) (fun hc => ?_) (fun hc => ?_)
          · have h := h.1 hc
            exact hret _ _ _ dX7_draw_164 ⟨t_colours, t_darks, t_nodes, t_fans, t_near, rfl, h⟩
          · have h := h.2 hc
            refine x_iload_n X dX7_draw_72 1 rfl ?_
            refine x_iload_n X dX7_draw_73 2 rfl ?_
            refine x_ishr X dX7_draw_74 ?_
            refine x_iconst (v := 1) X dX7_draw_75 (by decide) ?_
            refine x_iand X dX7_draw_76 ?_
            refine x_istore (lv' := [(5, .int ((x2 >>> (x3 &&& 31)) &&& (1 : Int32))), (0, .ref h_t), (2, .int x2), (3, .int x3), (4, .int x4)]) X dX7_draw_77 (by decide) rfl ?_
            refine x_aload_n X dX7_draw_79 1 rfl ?_
            refine x_dup X dX7_draw_80 rfl ?_
            refine x_get X inGX7 3 (by decide) rfl tw_216 dX7_draw_81 rfl 0 rfl rfl ?_
            refine x_iload X dX7_draw_84 0 rfl ?_
            refine x_iload X dX7_draw_86 4 rfl ?_
            refine x_ishl X dX7_draw_88 ?_
            refine x_ior X dX7_draw_89 ?_
            refine x_put (ws' := [(h_t, .inr (6, [.ref h_t_near, .ref h_t_fans, .int t_nodes, .int (t_darks ||| (((x2 >>> (x3 &&& 31)) &&& (1 : Int32)) <<< (x4 &&& 31))), .long t_colours])), (h_t_fans, aJ T 6 t_fans), (h_t_near, aI T 6 t_near)]) X inGX7 tyX7_ok nmX7 3 (by decide) rfl tw_216 dX7_draw_90 rfl rfl 0 rfl rfl rfl (Nat.le_of_ble_eq_true rfl) rfl ?_
            refine x_aload_n X dX7_draw_93 1 rfl ?_
            refine x_dup X dX7_draw_94 rfl ?_
            refine x_get X inGX7 4 (by decide) rfl tw_218 dX7_draw_95 rfl 0 rfl rfl ?_
            refine x_iload X dX7_draw_98 0 rfl ?_
            refine x_i2l X dX7_draw_100 ?_
            refine x_bipush (v := 8) X dX7_draw_101 (by decide) ?_
            refine x_iload X dX7_draw_103 4 rfl ?_
            refine x_imul X dX7_draw_105 ?_
            refine x_lshl X dX7_draw_106 ?_
            refine x_lor X dX7_draw_107 ?_
            refine x_put (ws' := [(h_t, .inr (6, [.ref h_t_near, .ref h_t_fans, .int t_nodes, .int (t_darks ||| (((x2 >>> (x3 &&& 31)) &&& (1 : Int32)) <<< (x4 &&& 31))), .long (t_colours ||| ((((x2 >>> (x3 &&& 31)) &&& (1 : Int32)).toInt64) <<< (((8 : Int32) * x4).toInt64 &&& 63)))])), (h_t_fans, aJ T 6 t_fans), (h_t_near, aI T 6 t_near)]) X inGX7 tyX7_ok nmX7 4 (by decide) rfl tw_218 dX7_draw_108 rfl rfl 0 rfl rfl rfl (Nat.le_of_ble_eq_true rfl) rfl ?_
            refine x_iinc (v := (x3 + (-1))) (lv' := [(3, .int (x3 + (-1))), (5, .int ((x2 >>> (x3 &&& 31)) &&& (1 : Int32))), (0, .ref h_t), (2, .int x2), (4, .int x4)]) X dX7_draw_111 3 rfl rfl (by decide) rfl ?_
            refine x_iconst (v := 0) X dX7_draw_114 (by decide) ?_
            refine x_istore (lv' := [(6, .int (0 : Int32)), (3, .int (x3 + (-1))), (5, .int ((x2 >>> (x3 &&& 31)) &&& (1 : Int32))), (0, .ref h_t), (2, .int x2), (4, .int x4)]) X dX7_draw_115 (by decide) rfl ?_
            obtain ⟨n117, h⟩ := h
            exact x_sub X [3, 4, 1, 5, 0] rfl (k117 n117 x2 (x3 + (-1)) x4 (0 : Int32) (t_colours ||| ((((x2 >>> (x3 &&& 31)) &&& (1 : Int32)).toInt64) <<< (((8 : Int32) * x4).toInt64 &&& 63))) (t_darks ||| (((x2 >>> (x3 &&& 31)) &&& (1 : Int32)) <<< (x4 &&& 31))) t_nodes t_fans t_near h)
      refine x_iload_n X dX7_draw_22 2 rfl ?_
      refine x_aload_n X dX7_draw_23 0 rfl ?_
      refine x_get X inGX7 2 (by decide) rfl tw_213 dX7_draw_24 rfl 0 rfl rfl ?_
      refine x_icmp_ge (tgt := 50) X dX7_draw_27 (by decide) (fun hc => ?_) (fun hc => ?_)
      · have h := h.1 hc
        refine x_aload_n X dX7_draw_50 0 rfl ?_
        refine x_get X inGX7 2 (by decide) rfl tw_213 dX7_draw_51 rfl 0 rfl rfl ?_
        refine x_callSI (av := [.int t_nodes]) (st := []) (wr := [(h_t, .inr (6, [.ref h_t_near, .ref h_t_fans, .int t_nodes, .int t_darks, .long t_colours])), (h_t_fans, aJ T 6 t_fans), (h_t_near, aI T 6 t_near)]) X (c_X0_bits l D T  t_nodes _ h) yk_X0_bits tw_355 dX7_draw_54 [] [0, 1, 2] rfl rfl rfl rfl (by decide) rfl rfl (Nat.le_of_ble_eq_true rfl) (Nat.le_of_ble_eq_true rfl) (Nat.le_of_ble_eq_true rfl) (Nat.zero_le _) (Nat.zero_le _) (fun r54 w1 hw => ?_)
        obtain ⟨rfl, h⟩ := hw
        refine x_perm (ws2 := [(h_t, .inr (6, [.ref h_t_near, .ref h_t_fans, .int t_nodes, .int t_darks, .long t_colours])), (h_t_fans, aJ T 6 t_fans), (h_t_near, aI T 6 t_near)]) X [0, 1, 2] rfl rfl ?_
        refine x_iconst (v := 1) X dX7_draw_57 (by decide) ?_
        refine x_isub X dX7_draw_58 ?_
        refine x_istore_n (lv' := [(3, .int (r54 - (1 : Int32))), (0, .ref h_t), (2, .int x2)]) X dX7_draw_59 (by decide) rfl ?_
        refine x_iconst (v := 0) X dX7_draw_60 (by decide) ?_
        refine x_istore (lv' := [(4, .int (0 : Int32)), (3, .int (r54 - (1 : Int32))), (0, .ref h_t), (2, .int x2)]) X dX7_draw_61 (by decide) rfl ?_
        obtain ⟨n63, h⟩ := h
        exact x_sub X [2, 3, 1, 0] rfl (k63 n63 x2 (r54 - (1 : Int32)) (0 : Int32) t_colours t_darks t_nodes t_fans t_near h)
      · have h := h.2 hc
        refine x_aload_n X dX7_draw_30 0 rfl ?_
        refine x_get X inGX7 0 (by decide) rfl tw_211 dX7_draw_31 rfl 0 rfl rfl ?_
        refine x_iload_n X dX7_draw_34 2 rfl ?_
        refine x_iconst (v := 0) X dX7_draw_35 (by decide) ?_
        obtain ⟨hi, h⟩ := h
        refine x_iast (ws' := [(h_t, .inr (6, [.ref h_t_near, .ref h_t_fans, .int t_nodes, .int t_darks, .long t_colours])), (h_t_fans, aJ T 6 t_fans), (h_t_near, aI T 6 (upd t_near x3.toNatClampNeg (0 : Int32)))]) X dX7_draw_36 2 rfl hi rfl ?_
        refine x_aload_n X dX7_draw_37 0 rfl ?_
        refine x_get X inGX7 1 (by decide) rfl tw_212 dX7_draw_38 rfl 0 rfl rfl ?_
        refine x_iload_n X dX7_draw_41 2 rfl ?_
        refine x_lconst (v := 0) X dX7_draw_42 (by decide) ?_
        obtain ⟨hi, h⟩ := h
        refine x_last (ws' := [(h_t, .inr (6, [.ref h_t_near, .ref h_t_fans, .int t_nodes, .int t_darks, .long t_colours])), (h_t_fans, aJ T 6 (vp_updL t_fans x3.toNatClampNeg (0 : Int64))), (h_t_near, aI T 6 (upd t_near x3.toNatClampNeg (0 : Int32)))]) X dX7_draw_43 1 rfl hi rfl ?_
        refine x_iinc (v := (x3 + 1)) (lv' := [(3, .int (x3 + 1)), (0, .ref h_t), (2, .int x2)]) X dX7_draw_44 2 rfl rfl (by decide) rfl ?_
        refine x_goto (tgt := 22) X dX7_draw_47 (by decide) ?_
        exact x_sub X [1, 2, 0] rfl (ih22 x2 (x3 + 1) t_colours t_darks t_nodes (vp_updL t_fans x3.toNatClampNeg (0 : Int64)) (upd t_near x3.toNatClampNeg (0 : Int32)) h)
  refine x_aload_n X dX7_draw_0 0 rfl ?_
  refine x_iload_n X dX7_draw_1 1 rfl ?_
  refine x_bipush (v := 6) X dX7_draw_2 (by decide) ?_
  refine x_mmin X tw_352 tw_353 tw_12 tw_354 (Nat.le_of_ble_eq_true rfl) (Nat.le_of_ble_eq_true rfl) (Nat.le_of_ble_eq_true rfl) (Nat.zero_le _) (Nat.zero_le _) dX7_draw_4 ?_
  refine x_put (ws' := [(h_t, .inr (6, [.ref h_t_near, .ref h_t_fans, .int (if (6 : Int32) < p1 then (6 : Int32) else p1), .int t_darks, .long t_colours])), (h_t_fans, aJ T 6 t_fans), (h_t_near, aI T 6 t_near)]) X inGX7 tyX7_ok nmX7 2 (by decide) rfl tw_213 dX7_draw_7 rfl rfl 0 rfl rfl rfl (Nat.le_of_ble_eq_true rfl) rfl ?_
  refine x_aload_n X dX7_draw_10 0 rfl ?_
  refine x_iconst (v := 0) X dX7_draw_11 (by decide) ?_
  refine x_put (ws' := [(h_t, .inr (6, [.ref h_t_near, .ref h_t_fans, .int (if (6 : Int32) < p1 then (6 : Int32) else p1), .int (0 : Int32), .long t_colours])), (h_t_fans, aJ T 6 t_fans), (h_t_near, aI T 6 t_near)]) X inGX7 tyX7_ok nmX7 3 (by decide) rfl tw_216 dX7_draw_12 rfl rfl 0 rfl rfl rfl (Nat.le_of_ble_eq_true rfl) rfl ?_
  refine x_aload_n X dX7_draw_15 0 rfl ?_
  refine x_lconst (v := 0) X dX7_draw_16 (by decide) ?_
  refine x_put (ws' := [(h_t, .inr (6, [.ref h_t_near, .ref h_t_fans, .int (if (6 : Int32) < p1 then (6 : Int32) else p1), .int (0 : Int32), .long (0 : Int64)])), (h_t_fans, aJ T 6 t_fans), (h_t_near, aI T 6 t_near)]) X inGX7 tyX7_ok nmX7 4 (by decide) rfl tw_218 dX7_draw_17 rfl rfl 0 rfl rfl rfl (Nat.le_of_ble_eq_true rfl) rfl ?_
  refine x_iconst (v := 0) X dX7_draw_20 (by decide) ?_
  refine x_istore_n (lv' := [(3, .int (0 : Int32)), (0, .ref h_t), (1, .int p1), (2, .int p2)]) X dX7_draw_21 (by decide) rfl ?_
  obtain ⟨n22, h⟩ := h
  exact x_sub X [1, 3, 0] rfl (k22 n22 p2 (0 : Int32) (0 : Int64) (0 : Int32) (if (6 : Int32) < p1 then (6 : Int32) else p1) t_fans t_near h)
theorem dX7_fan_0 : decode cX7_fan 0 = .ok (.iload_n 1, 1) := by decide +kernel
theorem dX7_fan_1 : decode cX7_fan 1 = .ok (.ifCond .lt 21, 3) := by decide +kernel
theorem dX7_fan_4 : decode cX7_fan 4 = .ok (.iload_n 1, 1) := by decide +kernel
theorem dX7_fan_5 : decode cX7_fan 5 = .ok (.aload_n 0, 1) := by decide +kernel
theorem dX7_fan_6 : decode cX7_fan 6 = .ok (.getfield 15, 3) := by decide +kernel
theorem dX7_fan_9 : decode cX7_fan 9 = .ok (.arraylength, 1) := by decide +kernel
theorem dX7_fan_10 : decode cX7_fan 10 = .ok (.if_icmp .ge 12, 3) := by decide +kernel
theorem dX7_fan_13 : decode cX7_fan 13 = .ok (.aload_n 0, 1) := by decide +kernel
theorem dX7_fan_14 : decode cX7_fan 14 = .ok (.getfield 15, 3) := by decide +kernel
theorem dX7_fan_17 : decode cX7_fan 17 = .ok (.iload_n 1, 1) := by decide +kernel
theorem dX7_fan_18 : decode cX7_fan 18 = .ok (.laload, 1) := by decide +kernel
theorem dX7_fan_19 : decode cX7_fan 19 = .ok (.goto 4, 3) := by decide +kernel
theorem dX7_fan_22 : decode cX7_fan 22 = .ok (.lconst 0, 1) := by decide +kernel
theorem dX7_fan_23 : decode cX7_fan 23 = .ok (.lreturn, 1) := by decide +kernel
set_option maxHeartbeats 4000000 in
set_option maxRecDepth 100000 in
theorem c_X7_fan (l : Launch) (D : eD) (T : Nat → ClassId) (h_t h_t_near h_t_fans : Nat) (t_colours : Int64) (t_darks : Int32) (t_nodes : Int32) (t_fans : Nat → Int64) (p1 : Int32) (post : Int64 → Prop) (h : F_X7_fan t_fans p1 post) : cJ l D T yX7_fan cX7_fan 2 (some .long) 0 0 0 0 [.ref h_t, .int p1] [(h_t, .inr (6, [.ref h_t_near, .ref h_t_fans, .int t_nodes, .int t_darks, .long t_colours])), (h_t_fans, aJ T 6 t_fans)] (fun r w1 => w1 = [(h_t, .inr (6, [.ref h_t_near, .ref h_t_fans, .int t_nodes, .int t_darks, .long t_colours])), (h_t_fans, aJ T 6 t_fans)] ∧ post r ) := by
  refine xJ_of (by decide +kernel) (Nat.le_of_ble_eq_true rfl) rfl ?_
  intro G X hret
  change G 0 0 0 [(0, .ref h_t), (1, .int p1)] [] [(h_t, .inr (6, [.ref h_t_near, .ref h_t_fans, .int t_nodes, .int t_darks, .long t_colours])), (h_t_fans, aJ T 6 t_fans)]
  unfold F_X7_fan at h
  have k23 : ∀ (s0 : Int64), F_X7_fan_23 t_fans post s0 → G 0 0 23 [] [.long s0] [(h_t, .inr (6, [.ref h_t_near, .ref h_t_fans, .int t_nodes, .int t_darks, .long t_colours])), (h_t_fans, aJ T 6 t_fans)] := by
    intro s0 h
    unfold F_X7_fan_23 at h
    exact hret _ _ _ _ dX7_fan_23 ⟨rfl, h⟩
  have k22 : F_X7_fan_22 t_fans post (fun s0 => F_X7_fan_23 t_fans post s0) → G 0 0 22 [] [] [(h_t, .inr (6, [.ref h_t_near, .ref h_t_fans, .int t_nodes, .int t_darks, .long t_colours])), (h_t_fans, aJ T 6 t_fans)] := by
    intro  h
    unfold F_X7_fan_22 at h
    refine x_lconst (v := 0) X dX7_fan_22 (by decide) ?_
    exact x_sub X [] rfl (k23 (0 : Int64) h)
  refine x_iload_n X dX7_fan_0 1 rfl ?_
  refine x_if_lt (tgt := 22) X dX7_fan_1 (by decide) (fun hc => ?_) (fun hc => ?_)
  · have h := h.1 hc
    exact x_sub X [] rfl (k22 h)
  · have h := h.2 hc
    refine x_iload_n X dX7_fan_4 1 rfl ?_
    refine x_aload_n X dX7_fan_5 0 rfl ?_
    refine x_get X inGX7 1 (by decide) rfl tw_212 dX7_fan_6 rfl 0 rfl rfl ?_
    refine x_alen (v := (6 : Int32)) X dX7_fan_9 1 2 rfl rfl rfl ?_
    refine x_icmp_ge (tgt := 22) X dX7_fan_10 (by decide) (fun hc => ?_) (fun hc => ?_)
    · have h := h.1 hc
      exact x_sub X [] rfl (k22 h)
    · have h := h.2 hc
      refine x_aload_n X dX7_fan_13 0 rfl ?_
      refine x_get X inGX7 1 (by decide) rfl tw_212 dX7_fan_14 rfl 0 rfl rfl ?_
      refine x_iload_n X dX7_fan_17 1 rfl ?_
      obtain ⟨hi, h⟩ := h
      refine x_lald X dX7_fan_18 1 rfl hi ?_
      refine x_goto (tgt := 23) X dX7_fan_19 (by decide) ?_
      exact x_sub X [] rfl (k23 (t_fans p1.toNatClampNeg) h)
theorem dX7_block_0 : decode cX7_block 0 = .ok (.lload_n 0, 1) := by decide +kernel
theorem dX7_block_1 : decode cX7_block 1 = .ok (.bipush 8, 2) := by decide +kernel
theorem dX7_block_3 : decode cX7_block 3 = .ok (.iload_n 2, 1) := by decide +kernel
theorem dX7_block_4 : decode cX7_block 4 = .ok (.imul, 1) := by decide +kernel
theorem dX7_block_5 : decode cX7_block 5 = .ok (.lshr, 1) := by decide +kernel
theorem dX7_block_6 : decode cX7_block 6 = .ok (.l2i, 1) := by decide +kernel
theorem dX7_block_7 : decode cX7_block 7 = .ok (.bipush 63, 2) := by decide +kernel
theorem dX7_block_9 : decode cX7_block 9 = .ok (.iand, 1) := by decide +kernel
theorem dX7_block_10 : decode cX7_block 10 = .ok (.ireturn, 1) := by decide +kernel
set_option maxHeartbeats 4000000 in
set_option maxRecDepth 100000 in
theorem c_X7_block (l : Launch) (D : eD) (T : Nat → ClassId)  (p0 : Int64) (p1 : Int32) (post : Int32 → Prop) (h : F_X7_block p0 p1 post) : cI l D T yX7_block cX7_block 3 (some .int) 0 0 0 0 [.long p0, .int p1] [] (fun r w1 => w1 = [] ∧ post r ) := by
  refine xI_of (ty := .int) (by decide +kernel) (Nat.le_of_ble_eq_true rfl) rfl ?_
  intro G X hret
  change G 0 0 0 [(0, .long p0), (2, .int p1)] [] []
  unfold F_X7_block at h
  refine x_lload_n X dX7_block_0 0 rfl ?_
  refine x_bipush (v := 8) X dX7_block_1 (by decide) ?_
  refine x_iload_n X dX7_block_3 1 rfl ?_
  refine x_imul X dX7_block_4 ?_
  refine x_lshr X dX7_block_5 ?_
  refine x_l2i X dX7_block_6 ?_
  refine x_bipush (v := 63) X dX7_block_7 (by decide) ?_
  refine x_iand X dX7_block_9 ?_
  exact hret _ _ _ _ dX7_block_10 rfl ⟨rfl, h⟩
theorem dX7_lowest_0 : decode cX7_lowest 0 = .ok (.iconst 0, 1) := by decide +kernel
theorem dX7_lowest_1 : decode cX7_lowest 1 = .ok (.istore_n 1, 1) := by decide +kernel
theorem dX7_lowest_2 : decode cX7_lowest 2 = .ok (.iload_n 1, 1) := by decide +kernel
theorem dX7_lowest_3 : decode cX7_lowest 3 = .ok (.bipush 31, 2) := by decide +kernel
theorem dX7_lowest_5 : decode cX7_lowest 5 = .ok (.if_icmp .ge 20, 3) := by decide +kernel
theorem dX7_lowest_8 : decode cX7_lowest 8 = .ok (.iload_n 0, 1) := by decide +kernel
theorem dX7_lowest_9 : decode cX7_lowest 9 = .ok (.iload_n 1, 1) := by decide +kernel
theorem dX7_lowest_10 : decode cX7_lowest 10 = .ok (.ishr, 1) := by decide +kernel
theorem dX7_lowest_11 : decode cX7_lowest 11 = .ok (.iconst 1, 1) := by decide +kernel
theorem dX7_lowest_12 : decode cX7_lowest 12 = .ok (.iand, 1) := by decide +kernel
theorem dX7_lowest_13 : decode cX7_lowest 13 = .ok (.iconst 1, 1) := by decide +kernel
theorem dX7_lowest_14 : decode cX7_lowest 14 = .ok (.if_icmp .ne 5, 3) := by decide +kernel
theorem dX7_lowest_17 : decode cX7_lowest 17 = .ok (.iload_n 1, 1) := by decide +kernel
theorem dX7_lowest_18 : decode cX7_lowest 18 = .ok (.ireturn, 1) := by decide +kernel
theorem dX7_lowest_19 : decode cX7_lowest 19 = .ok (.iinc 1 1, 3) := by decide +kernel
theorem dX7_lowest_22 : decode cX7_lowest 22 = .ok (.goto (-20), 3) := by decide +kernel
theorem dX7_lowest_25 : decode cX7_lowest 25 = .ok (.iconst (-1), 1) := by decide +kernel
theorem dX7_lowest_26 : decode cX7_lowest 26 = .ok (.ireturn, 1) := by decide +kernel
set_option maxHeartbeats 4000000 in
set_option maxRecDepth 100000 in
theorem c_X7_lowest (l : Launch) (D : eD) (T : Nat → ClassId)  (p0 : Int32) (post : Int32 → Prop) (h : F_X7_lowest p0 post) : cI l D T yX7_lowest cX7_lowest 2 (some .int) 0 0 0 0 [.int p0] [] (fun r w1 => w1 = [] ∧ post r ) := by
  refine xI_of (ty := .int) (by decide +kernel) (Nat.le_of_ble_eq_true rfl) rfl ?_
  intro G X hret
  change G 0 0 0 [(0, .int p0)] [] []
  unfold F_X7_lowest at h
  have k2 : ∀ (n2 : Nat) (x0 : Int32) (x1 : Int32), F_X7_lowest_2 post n2 x0 x1 → G 0 0 2 [(0, .int x0), (1, .int x1)] [] [] := by
    intro n2
    induction n2 with
    | zero => intro x0 x1 h; exact h.elim
    | succ n2 ih2 =>
      intro x0 x1 h
      rw [F_X7_lowest_2] at h
      refine x_iload_n X dX7_lowest_2 1 rfl ?_
      refine x_bipush (v := 31) X dX7_lowest_3 (by decide) ?_
      refine x_icmp_ge (tgt := 25) X dX7_lowest_5 (by decide) (fun hc => ?_) (fun hc => ?_)
      · have h := h.1 hc
        refine x_iconst (v := -1) X dX7_lowest_25 (by decide) ?_
        exact hret _ _ _ _ dX7_lowest_26 rfl ⟨rfl, h⟩
      · have h := h.2 hc
        refine x_iload_n X dX7_lowest_8 0 rfl ?_
        refine x_iload_n X dX7_lowest_9 1 rfl ?_
        refine x_ishr X dX7_lowest_10 ?_
        refine x_iconst (v := 1) X dX7_lowest_11 (by decide) ?_
        refine x_iand X dX7_lowest_12 ?_
        refine x_iconst (v := 1) X dX7_lowest_13 (by decide) ?_
        refine x_icmp_ne (tgt := 19) X dX7_lowest_14 (by decide) (fun hc => ?_) (fun hc => ?_)
        · have h := h.1 hc
          refine x_iinc (v := (x1 + 1)) (lv' := [(1, .int (x1 + 1)), (0, .int x0)]) X dX7_lowest_19 1 rfl rfl (by decide) rfl ?_
          refine x_goto (tgt := 2) X dX7_lowest_22 (by decide) ?_
          exact x_sub X [1, 0] rfl (ih2 x0 (x1 + 1) h)
        · have h := h.2 hc
          refine x_iload_n X dX7_lowest_17 1 rfl ?_
          exact hret _ _ _ _ dX7_lowest_18 rfl ⟨rfl, h⟩
  refine x_iconst (v := 0) X dX7_lowest_0 (by decide) ?_
  refine x_istore_n (lv' := [(1, .int (0 : Int32)), (0, .int p0)]) X dX7_lowest_1 (by decide) rfl ?_
  obtain ⟨n2, h⟩ := h
  exact x_sub X [1, 0] rfl (k2 n2 p0 (0 : Int32) h)
theorem dX7_nearOf_0 : decode cX7_nearOf 0 = .ok (.iload_n 1, 1) := by decide +kernel
theorem dX7_nearOf_1 : decode cX7_nearOf 1 = .ok (.ifCond .lt 21, 3) := by decide +kernel
theorem dX7_nearOf_4 : decode cX7_nearOf 4 = .ok (.iload_n 1, 1) := by decide +kernel
theorem dX7_nearOf_5 : decode cX7_nearOf 5 = .ok (.aload_n 0, 1) := by decide +kernel
theorem dX7_nearOf_6 : decode cX7_nearOf 6 = .ok (.getfield 9, 3) := by decide +kernel
theorem dX7_nearOf_9 : decode cX7_nearOf 9 = .ok (.arraylength, 1) := by decide +kernel
theorem dX7_nearOf_10 : decode cX7_nearOf 10 = .ok (.if_icmp .ge 12, 3) := by decide +kernel
theorem dX7_nearOf_13 : decode cX7_nearOf 13 = .ok (.aload_n 0, 1) := by decide +kernel
theorem dX7_nearOf_14 : decode cX7_nearOf 14 = .ok (.getfield 9, 3) := by decide +kernel
theorem dX7_nearOf_17 : decode cX7_nearOf 17 = .ok (.iload_n 1, 1) := by decide +kernel
theorem dX7_nearOf_18 : decode cX7_nearOf 18 = .ok (.iaload, 1) := by decide +kernel
theorem dX7_nearOf_19 : decode cX7_nearOf 19 = .ok (.goto 4, 3) := by decide +kernel
theorem dX7_nearOf_22 : decode cX7_nearOf 22 = .ok (.iconst 0, 1) := by decide +kernel
theorem dX7_nearOf_23 : decode cX7_nearOf 23 = .ok (.ireturn, 1) := by decide +kernel
set_option maxHeartbeats 4000000 in
set_option maxRecDepth 100000 in
theorem c_X7_nearOf (l : Launch) (D : eD) (T : Nat → ClassId) (h_t h_t_near h_t_fans : Nat) (t_colours : Int64) (t_darks : Int32) (t_nodes : Int32) (t_near : Nat → Int32) (p1 : Int32) (post : Int32 → Prop) (h : F_X7_nearOf t_near p1 post) : cI l D T yX7_nearOf cX7_nearOf 2 (some .int) 0 0 0 0 [.ref h_t, .int p1] [(h_t, .inr (6, [.ref h_t_near, .ref h_t_fans, .int t_nodes, .int t_darks, .long t_colours])), (h_t_near, aI T 6 t_near)] (fun r w1 => w1 = [(h_t, .inr (6, [.ref h_t_near, .ref h_t_fans, .int t_nodes, .int t_darks, .long t_colours])), (h_t_near, aI T 6 t_near)] ∧ post r ) := by
  refine xI_of (ty := .int) (by decide +kernel) (Nat.le_of_ble_eq_true rfl) rfl ?_
  intro G X hret
  change G 0 0 0 [(0, .ref h_t), (1, .int p1)] [] [(h_t, .inr (6, [.ref h_t_near, .ref h_t_fans, .int t_nodes, .int t_darks, .long t_colours])), (h_t_near, aI T 6 t_near)]
  unfold F_X7_nearOf at h
  have k23 : ∀ (s0 : Int32), F_X7_nearOf_23 t_near post s0 → G 0 0 23 [] [.int s0] [(h_t, .inr (6, [.ref h_t_near, .ref h_t_fans, .int t_nodes, .int t_darks, .long t_colours])), (h_t_near, aI T 6 t_near)] := by
    intro s0 h
    unfold F_X7_nearOf_23 at h
    exact hret _ _ _ _ dX7_nearOf_23 rfl ⟨rfl, h⟩
  have k22 : F_X7_nearOf_22 t_near post (fun s0 => F_X7_nearOf_23 t_near post s0) → G 0 0 22 [] [] [(h_t, .inr (6, [.ref h_t_near, .ref h_t_fans, .int t_nodes, .int t_darks, .long t_colours])), (h_t_near, aI T 6 t_near)] := by
    intro  h
    unfold F_X7_nearOf_22 at h
    refine x_iconst (v := 0) X dX7_nearOf_22 (by decide) ?_
    exact x_sub X [] rfl (k23 (0 : Int32) h)
  refine x_iload_n X dX7_nearOf_0 1 rfl ?_
  refine x_if_lt (tgt := 22) X dX7_nearOf_1 (by decide) (fun hc => ?_) (fun hc => ?_)
  · have h := h.1 hc
    exact x_sub X [] rfl (k22 h)
  · have h := h.2 hc
    refine x_iload_n X dX7_nearOf_4 1 rfl ?_
    refine x_aload_n X dX7_nearOf_5 0 rfl ?_
    refine x_get X inGX7 0 (by decide) rfl tw_211 dX7_nearOf_6 rfl 0 rfl rfl ?_
    refine x_alen (v := (6 : Int32)) X dX7_nearOf_9 1 1 rfl rfl rfl ?_
    refine x_icmp_ge (tgt := 22) X dX7_nearOf_10 (by decide) (fun hc => ?_) (fun hc => ?_)
    · have h := h.1 hc
      exact x_sub X [] rfl (k22 h)
    · have h := h.2 hc
      refine x_aload_n X dX7_nearOf_13 0 rfl ?_
      refine x_get X inGX7 0 (by decide) rfl tw_211 dX7_nearOf_14 rfl 0 rfl rfl ?_
      refine x_iload_n X dX7_nearOf_17 1 rfl ?_
      obtain ⟨hi, h⟩ := h
      refine x_iald X dX7_nearOf_18 1 rfl hi ?_
      refine x_goto (tgt := 23) X dX7_nearOf_19 (by decide) ?_
      exact x_sub X [] rfl (k23 (t_near p1.toNatClampNeg) h)
theorem dX7_stepTo_0 : decode cX7_stepTo 0 = .ok (.aload_n 0, 1) := by decide +kernel
theorem dX7_stepTo_1 : decode cX7_stepTo 1 = .ok (.iload_n 2, 1) := by decide +kernel
theorem dX7_stepTo_2 : decode cX7_stepTo 2 = .ok (.iload_n 1, 1) := by decide +kernel
theorem dX7_stepTo_3 : decode cX7_stepTo 3 = .ok (.iload_n 3, 1) := by decide +kernel
theorem dX7_stepTo_4 : decode cX7_stepTo 4 = .ok (.iconst 1, 1) := by decide +kernel
theorem dX7_stepTo_5 : decode cX7_stepTo 5 = .ok (.iload_n 1, 1) := by decide +kernel
theorem dX7_stepTo_6 : decode cX7_stepTo 6 = .ok (.ishl, 1) := by decide +kernel
theorem dX7_stepTo_7 : decode cX7_stepTo 7 = .ok (.ior, 1) := by decide +kernel
theorem dX7_stepTo_8 : decode cX7_stepTo 8 = .ok (.iload 4, 2) := by decide +kernel
theorem dX7_stepTo_10 : decode cX7_stepTo 10 = .ok (.iconst 1, 1) := by decide +kernel
theorem dX7_stepTo_11 : decode cX7_stepTo 11 = .ok (.iadd, 1) := by decide +kernel
theorem dX7_stepTo_12 : decode cX7_stepTo 12 = .ok (.invokevirtual 60, 3) := by decide +kernel
theorem dX7_stepTo_15 : decode cX7_stepTo 15 = .ok (.ireturn, 1) := by decide +kernel
set_option maxHeartbeats 4000000 in
set_option maxRecDepth 100000 in
theorem c_X7_stepTo (l : Launch) (D : eD) (T : Nat → ClassId) (h_t h_t_near h_t_fans : Nat) (FA : Int32 → (Nat → Int32) → Int32 → Int32 → Int32 → Int32 → (Int32 → Prop) → Prop) (fA lA : Nat) (ih : ∀ (t_colours : Int64) (t_darks : Int32) (t_nodes : Int32) (t_near : Nat → Int32) (p1 : Int32) (p2 : Int32) (p3 : Int32) (p4 : Int32) (post : Int32 → Prop), FA t_nodes t_near p1 p2 p3 p4 post → cI l D T yX7_closeFrom cX7_closeFrom 7 (some .int) fA lA 0 0 [.ref h_t, .int p1, .int p2, .int p3, .int p4] [(h_t, .inr (6, [.ref h_t_near, .ref h_t_fans, .int t_nodes, .int t_darks, .long t_colours])), (h_t_near, aI T 6 t_near)] (fun r w1 => w1 = [(h_t, .inr (6, [.ref h_t_near, .ref h_t_fans, .int t_nodes, .int t_darks, .long t_colours])), (h_t_near, aI T 6 t_near)] ∧ post r )) (t_colours : Int64) (t_darks : Int32) (t_nodes : Int32) (t_near : Nat → Int32) (p1 : Int32) (p2 : Int32) (p3 : Int32) (p4 : Int32) (post : Int32 → Prop) (h : F_X7_stepTo FA t_nodes t_near p1 p2 p3 p4 post) : cI l D T yX7_stepTo cX7_stepTo 5 (some .int) (fA + 1) (lA + 26) 0 0 [.ref h_t, .int p1, .int p2, .int p3, .int p4] [(h_t, .inr (6, [.ref h_t_near, .ref h_t_fans, .int t_nodes, .int t_darks, .long t_colours])), (h_t_near, aI T 6 t_near)] (fun r w1 => w1 = [(h_t, .inr (6, [.ref h_t_near, .ref h_t_fans, .int t_nodes, .int t_darks, .long t_colours])), (h_t_near, aI T 6 t_near)] ∧ post r ) := by
  refine xI_of (ty := .int) (by decide +kernel) (Nat.le_of_ble_eq_true rfl) rfl ?_
  intro G X hret
  change G 0 0 0 [(0, .ref h_t), (1, .int p1), (2, .int p2), (3, .int p3), (4, .int p4)] [] [(h_t, .inr (6, [.ref h_t_near, .ref h_t_fans, .int t_nodes, .int t_darks, .long t_colours])), (h_t_near, aI T 6 t_near)]
  unfold F_X7_stepTo at h
  refine x_aload_n X dX7_stepTo_0 0 rfl ?_
  refine x_iload_n X dX7_stepTo_1 2 rfl ?_
  refine x_iload_n X dX7_stepTo_2 1 rfl ?_
  refine x_iload_n X dX7_stepTo_3 3 rfl ?_
  refine x_iconst (v := 1) X dX7_stepTo_4 (by decide) ?_
  refine x_iload_n X dX7_stepTo_5 1 rfl ?_
  refine x_ishl X dX7_stepTo_6 ?_
  refine x_ior X dX7_stepTo_7 ?_
  refine x_iload X dX7_stepTo_8 4 rfl ?_
  refine x_iconst (v := 1) X dX7_stepTo_10 (by decide) ?_
  refine x_iadd X dX7_stepTo_11 ?_
  refine x_callVI (av := [.int p2, .int p1, .int (p3 ||| ((1 : Int32) <<< (p1 &&& 31))), .int (p4 + (1 : Int32))]) (st := []) (wr := []) X (ih t_colours t_darks t_nodes t_near p2 p1 (p3 ||| ((1 : Int32) <<< (p1 &&& 31))) (p4 + (1 : Int32)) _ h) yk_X7_closeFrom tw_414 dX7_stepTo_12 0 rfl rfl [0, 1] [] rfl rfl rfl rfl (by decide) rfl rfl (Nat.le_of_ble_eq_true rfl) (by dsimp only [eR]; omega) (by dsimp only [eR]; omega) (Nat.zero_le _) (Nat.zero_le _) (fun r12 w1 hw => ?_)
  obtain ⟨rfl, h⟩ := hw
  refine x_perm (ws2 := [(h_t, .inr (6, [.ref h_t_near, .ref h_t_fans, .int t_nodes, .int t_darks, .long t_colours])), (h_t_near, aI T 6 t_near)]) X [0, 1] rfl rfl ?_
  exact hret _ _ _ _ dX7_stepTo_15 rfl ⟨rfl, h⟩
theorem dX7_closeFrom_0 : decode cX7_closeFrom 0 = .ok (.iload 4, 2) := by decide +kernel
theorem dX7_closeFrom_2 : decode cX7_closeFrom 2 = .ok (.iconst 2, 1) := by decide +kernel
theorem dX7_closeFrom_3 : decode cX7_closeFrom 3 = .ok (.if_icmp .le 23, 3) := by decide +kernel
theorem dX7_closeFrom_6 : decode cX7_closeFrom 6 = .ok (.aload_n 0, 1) := by decide +kernel
theorem dX7_closeFrom_7 : decode cX7_closeFrom 7 = .ok (.iload_n 2, 1) := by decide +kernel
theorem dX7_closeFrom_8 : decode cX7_closeFrom 8 = .ok (.invokevirtual 46, 3) := by decide +kernel
theorem dX7_closeFrom_11 : decode cX7_closeFrom 11 = .ok (.iload_n 1, 1) := by decide +kernel
theorem dX7_closeFrom_12 : decode cX7_closeFrom 12 = .ok (.ishr, 1) := by decide +kernel
theorem dX7_closeFrom_13 : decode cX7_closeFrom 13 = .ok (.iconst 1, 1) := by decide +kernel
theorem dX7_closeFrom_14 : decode cX7_closeFrom 14 = .ok (.iand, 1) := by decide +kernel
theorem dX7_closeFrom_15 : decode cX7_closeFrom 15 = .ok (.iconst 1, 1) := by decide +kernel
theorem dX7_closeFrom_16 : decode cX7_closeFrom 16 = .ok (.if_icmp .ne 10, 3) := by decide +kernel
theorem dX7_closeFrom_19 : decode cX7_closeFrom 19 = .ok (.iconst 1, 1) := by decide +kernel
theorem dX7_closeFrom_20 : decode cX7_closeFrom 20 = .ok (.iload 4, 2) := by decide +kernel
theorem dX7_closeFrom_22 : decode cX7_closeFrom 22 = .ok (.ishl, 1) := by decide +kernel
theorem dX7_closeFrom_23 : decode cX7_closeFrom 23 = .ok (.goto 4, 3) := by decide +kernel
theorem dX7_closeFrom_26 : decode cX7_closeFrom 26 = .ok (.iconst 0, 1) := by decide +kernel
theorem dX7_closeFrom_27 : decode cX7_closeFrom 27 = .ok (.istore 5, 2) := by decide +kernel
theorem dX7_closeFrom_29 : decode cX7_closeFrom 29 = .ok (.iload 4, 2) := by decide +kernel
theorem dX7_closeFrom_31 : decode cX7_closeFrom 31 = .ok (.aload_n 0, 1) := by decide +kernel
theorem dX7_closeFrom_32 : decode cX7_closeFrom 32 = .ok (.getfield 25, 3) := by decide +kernel
theorem dX7_closeFrom_35 : decode cX7_closeFrom 35 = .ok (.if_icmp .lt 6, 3) := by decide +kernel
theorem dX7_closeFrom_38 : decode cX7_closeFrom 38 = .ok (.iload 5, 2) := by decide +kernel
theorem dX7_closeFrom_40 : decode cX7_closeFrom 40 = .ok (.ireturn, 1) := by decide +kernel
theorem dX7_closeFrom_41 : decode cX7_closeFrom 41 = .ok (.iload_n 1, 1) := by decide +kernel
theorem dX7_closeFrom_42 : decode cX7_closeFrom 42 = .ok (.iconst 1, 1) := by decide +kernel
theorem dX7_closeFrom_43 : decode cX7_closeFrom 43 = .ok (.iadd, 1) := by decide +kernel
theorem dX7_closeFrom_44 : decode cX7_closeFrom 44 = .ok (.istore 6, 2) := by decide +kernel
theorem dX7_closeFrom_46 : decode cX7_closeFrom 46 = .ok (.iload 6, 2) := by decide +kernel
theorem dX7_closeFrom_48 : decode cX7_closeFrom 48 = .ok (.aload_n 0, 1) := by decide +kernel
theorem dX7_closeFrom_49 : decode cX7_closeFrom 49 = .ok (.getfield 25, 3) := by decide +kernel
theorem dX7_closeFrom_52 : decode cX7_closeFrom 52 = .ok (.if_icmp .ge 42, 3) := by decide +kernel
theorem dX7_closeFrom_55 : decode cX7_closeFrom 55 = .ok (.aload_n 0, 1) := by decide +kernel
theorem dX7_closeFrom_56 : decode cX7_closeFrom 56 = .ok (.iload_n 2, 1) := by decide +kernel
theorem dX7_closeFrom_57 : decode cX7_closeFrom 57 = .ok (.invokevirtual 46, 3) := by decide +kernel
theorem dX7_closeFrom_60 : decode cX7_closeFrom 60 = .ok (.iload_n 3, 1) := by decide +kernel
theorem dX7_closeFrom_61 : decode cX7_closeFrom 61 = .ok (.iconst (-1), 1) := by decide +kernel
theorem dX7_closeFrom_62 : decode cX7_closeFrom 62 = .ok (.ixor, 1) := by decide +kernel
theorem dX7_closeFrom_63 : decode cX7_closeFrom 63 = .ok (.iand, 1) := by decide +kernel
theorem dX7_closeFrom_64 : decode cX7_closeFrom 64 = .ok (.iload 6, 2) := by decide +kernel
theorem dX7_closeFrom_66 : decode cX7_closeFrom 66 = .ok (.ishr, 1) := by decide +kernel
theorem dX7_closeFrom_67 : decode cX7_closeFrom 67 = .ok (.iconst 1, 1) := by decide +kernel
theorem dX7_closeFrom_68 : decode cX7_closeFrom 68 = .ok (.iand, 1) := by decide +kernel
theorem dX7_closeFrom_69 : decode cX7_closeFrom 69 = .ok (.iconst 1, 1) := by decide +kernel
theorem dX7_closeFrom_70 : decode cX7_closeFrom 70 = .ok (.if_icmp .ne 18, 3) := by decide +kernel
theorem dX7_closeFrom_73 : decode cX7_closeFrom 73 = .ok (.iload 5, 2) := by decide +kernel
theorem dX7_closeFrom_75 : decode cX7_closeFrom 75 = .ok (.aload_n 0, 1) := by decide +kernel
theorem dX7_closeFrom_76 : decode cX7_closeFrom 76 = .ok (.iload 6, 2) := by decide +kernel
theorem dX7_closeFrom_78 : decode cX7_closeFrom 78 = .ok (.iload_n 1, 1) := by decide +kernel
theorem dX7_closeFrom_79 : decode cX7_closeFrom 79 = .ok (.iload_n 3, 1) := by decide +kernel
theorem dX7_closeFrom_80 : decode cX7_closeFrom 80 = .ok (.iload 4, 2) := by decide +kernel
theorem dX7_closeFrom_82 : decode cX7_closeFrom 82 = .ok (.invokevirtual 71, 3) := by decide +kernel
theorem dX7_closeFrom_85 : decode cX7_closeFrom 85 = .ok (.ior, 1) := by decide +kernel
theorem dX7_closeFrom_86 : decode cX7_closeFrom 86 = .ok (.istore 5, 2) := by decide +kernel
theorem dX7_closeFrom_88 : decode cX7_closeFrom 88 = .ok (.iinc 6 1, 3) := by decide +kernel
theorem dX7_closeFrom_91 : decode cX7_closeFrom 91 = .ok (.goto (-45), 3) := by decide +kernel
theorem dX7_closeFrom_94 : decode cX7_closeFrom 94 = .ok (.iload 5, 2) := by decide +kernel
theorem dX7_closeFrom_96 : decode cX7_closeFrom 96 = .ok (.ireturn, 1) := by decide +kernel
set_option maxHeartbeats 4000000 in
set_option maxRecDepth 100000 in
theorem c_X7_closeFrom (l : Launch) (D : eD) (T : Nat → ClassId) (h_t h_t_near h_t_fans : Nat) : ∀ d : Nat, ∀ (t_colours : Int64) (t_darks : Int32) (t_nodes : Int32) (t_near : Nat → Int32) (p1 : Int32) (p2 : Int32) (p3 : Int32) (p4 : Int32) (post : Int32 → Prop), F_X7_closeFrom d t_nodes t_near p1 p2 p3 p4 post → cI l D T yX7_closeFrom cX7_closeFrom 7 (some .int) (2 * d + 1) (50 * d + 21) 0 0 [.ref h_t, .int p1, .int p2, .int p3, .int p4] [(h_t, .inr (6, [.ref h_t_near, .ref h_t_fans, .int t_nodes, .int t_darks, .long t_colours])), (h_t_near, aI T 6 t_near)] (fun r w1 => w1 = [(h_t, .inr (6, [.ref h_t_near, .ref h_t_fans, .int t_nodes, .int t_darks, .long t_colours])), (h_t_near, aI T 6 t_near)] ∧ post r ) := by
  intro d
  induction d with
  | zero =>
    intro t_colours t_darks t_nodes t_near p1 p2 p3 p4 post h
    exact h.elim
  | succ d ih =>
  intro t_colours t_darks t_nodes t_near p1 p2 p3 p4 post h
  have h : FB_X7_closeFrom (F_X7_closeFrom d) t_nodes t_near p1 p2 p3 p4 post := h
  generalize F_X7_closeFrom d = FA at h ih
  refine xI_of (ty := .int) (by decide +kernel) (Nat.le_of_ble_eq_true rfl) rfl ?_
  intro G X hret
  change G 0 0 0 [(0, .ref h_t), (1, .int p1), (2, .int p2), (3, .int p3), (4, .int p4)] [] [(h_t, .inr (6, [.ref h_t_near, .ref h_t_fans, .int t_nodes, .int t_darks, .long t_colours])), (h_t_near, aI T 6 t_near)]
  unfold FB_X7_closeFrom at h
  have k27 : ∀ (x1 : Int32) (x2 : Int32) (x3 : Int32) (x4 : Int32) (s0 : Int32), F_X7_closeFrom_27 FA t_nodes t_near post x1 x2 x3 x4 s0 → G 0 0 27 [(0, .ref h_t), (1, .int x1), (2, .int x2), (3, .int x3), (4, .int x4)] [.int s0] [(h_t, .inr (6, [.ref h_t_near, .ref h_t_fans, .int t_nodes, .int t_darks, .long t_colours])), (h_t_near, aI T 6 t_near)] := by
    intro x1 x2 x3 x4 s0 h
    unfold F_X7_closeFrom_27 at h
    have k46 : ∀ (n46 : Nat) (x1 : Int32) (x2 : Int32) (x3 : Int32) (x4 : Int32) (x5 : Int32) (x6 : Int32), F_X7_closeFrom_46 FA t_nodes t_near post n46 x1 x2 x3 x4 x5 x6 → G 0 0 46 [(0, .ref h_t), (1, .int x1), (2, .int x2), (3, .int x3), (4, .int x4), (5, .int x5), (6, .int x6)] [] [(h_t, .inr (6, [.ref h_t_near, .ref h_t_fans, .int t_nodes, .int t_darks, .long t_colours])), (h_t_near, aI T 6 t_near)] := by
      intro n46
      induction n46 with
      | zero => intro x1 x2 x3 x4 x5 x6 h; exact h.elim
      | succ n46 ih46 =>
        intro x1 x2 x3 x4 x5 x6 h
        rw [F_X7_closeFrom_46] at h
        have k88 : ∀ (x1 : Int32) (x2 : Int32) (x3 : Int32) (x4 : Int32) (x5 : Int32) (x6 : Int32), F_X7_closeFrom_88 FA t_nodes t_near post (F_X7_closeFrom_46 FA t_nodes t_near post n46) x1 x2 x3 x4 x5 x6 → G 0 0 88 [(0, .ref h_t), (1, .int x1), (2, .int x2), (3, .int x3), (4, .int x4), (5, .int x5), (6, .int x6)] [] [(h_t, .inr (6, [.ref h_t_near, .ref h_t_fans, .int t_nodes, .int t_darks, .long t_colours])), (h_t_near, aI T 6 t_near)] := by
          intro x1 x2 x3 x4 x5 x6 h
          unfold F_X7_closeFrom_88 at h
          refine x_iinc (v := (x6 + 1)) (lv' := [(6, .int (x6 + 1)), (0, .ref h_t), (1, .int x1), (2, .int x2), (3, .int x3), (4, .int x4), (5, .int x5)]) X dX7_closeFrom_88 6 rfl rfl (by decide) rfl ?_
          refine x_goto (tgt := 46) X dX7_closeFrom_91 (by decide) ?_
          exact x_sub X [1, 2, 3, 4, 5, 6, 0] rfl (ih46 x1 x2 x3 x4 x5 (x6 + 1) h)
        refine x_iload X dX7_closeFrom_46 6 rfl ?_
        refine x_aload_n X dX7_closeFrom_48 0 rfl ?_
        refine x_get X inGX7 2 (by decide) rfl tw_213 dX7_closeFrom_49 rfl 0 rfl rfl ?_
        refine x_icmp_ge (tgt := 94) X dX7_closeFrom_52 (by decide) (fun hc => ?_) (fun hc => ?_)
        · have h := h.1 hc
          refine x_iload X dX7_closeFrom_94 5 rfl ?_
          exact hret _ _ _ _ dX7_closeFrom_96 rfl ⟨rfl, h⟩
        · have h := h.2 hc
          refine x_aload_n X dX7_closeFrom_55 0 rfl ?_
          refine x_iload_n X dX7_closeFrom_56 2 rfl ?_
          refine x_callVI (av := [.int x2]) (st := []) (wr := []) X (c_X7_nearOf l D T h_t h_t_near h_t_fans t_colours t_darks t_nodes t_near x2 _ h) yk_X7_nearOf tw_393 dX7_closeFrom_57 0 rfl rfl [0, 1] [] rfl rfl rfl rfl (by decide) rfl rfl (Nat.le_of_ble_eq_true rfl) (by dsimp only [eR]; omega) (by dsimp only [eR]; omega) (Nat.zero_le _) (Nat.zero_le _) (fun r57 w1 hw => ?_)
          obtain ⟨rfl, h⟩ := hw
          refine x_perm (ws2 := [(h_t, .inr (6, [.ref h_t_near, .ref h_t_fans, .int t_nodes, .int t_darks, .long t_colours])), (h_t_near, aI T 6 t_near)]) X [0, 1] rfl rfl ?_
          refine x_iload_n X dX7_closeFrom_60 3 rfl ?_
          refine x_iconst (v := -1) X dX7_closeFrom_61 (by decide) ?_
          refine x_ixor X dX7_closeFrom_62 ?_
          refine x_iand X dX7_closeFrom_63 ?_
          refine x_iload X dX7_closeFrom_64 6 rfl ?_
          refine x_ishr X dX7_closeFrom_66 ?_
          refine x_iconst (v := 1) X dX7_closeFrom_67 (by decide) ?_
          refine x_iand X dX7_closeFrom_68 ?_
          refine x_iconst (v := 1) X dX7_closeFrom_69 (by decide) ?_
          refine x_icmp_ne (tgt := 88) X dX7_closeFrom_70 (by decide) (fun hc => ?_) (fun hc => ?_)
          · have h := h.1 hc
            exact x_sub X [0, 1, 2, 3, 4, 5, 6] rfl (k88 x1 x2 x3 x4 x5 x6 h)
          · have h := h.2 hc
            refine x_iload X dX7_closeFrom_73 5 rfl ?_
            refine x_aload_n X dX7_closeFrom_75 0 rfl ?_
            refine x_iload X dX7_closeFrom_76 6 rfl ?_
            refine x_iload_n X dX7_closeFrom_78 1 rfl ?_
            refine x_iload_n X dX7_closeFrom_79 3 rfl ?_
            refine x_iload X dX7_closeFrom_80 4 rfl ?_
            refine x_callVI (av := [.int x6, .int x1, .int x3, .int x4]) (st := [.int x5]) (wr := []) X (c_X7_stepTo l D T h_t h_t_near h_t_fans FA (2 * d + 1) (50 * d + 21) ih t_colours t_darks t_nodes t_near x6 x1 x3 x4 _ h) yk_X7_stepTo tw_418 dX7_closeFrom_82 0 rfl rfl [0, 1] [] rfl rfl rfl rfl (by decide) rfl rfl (Nat.le_of_ble_eq_true rfl) (by dsimp only [eR]; omega) (by dsimp only [eR]; omega) (Nat.zero_le _) (Nat.zero_le _) (fun r82 w1 hw => ?_)
            obtain ⟨rfl, h⟩ := hw
            refine x_perm (ws2 := [(h_t, .inr (6, [.ref h_t_near, .ref h_t_fans, .int t_nodes, .int t_darks, .long t_colours])), (h_t_near, aI T 6 t_near)]) X [0, 1] rfl rfl ?_
            refine x_ior X dX7_closeFrom_85 ?_
            refine x_istore (lv' := [(5, .int (x5 ||| r82)), (0, .ref h_t), (1, .int x1), (2, .int x2), (3, .int x3), (4, .int x4), (6, .int x6)]) X dX7_closeFrom_86 (by decide) rfl ?_
            exact x_sub X [1, 2, 3, 4, 5, 0, 6] rfl (k88 x1 x2 x3 x4 (x5 ||| r82) x6 h)
    refine x_istore (lv' := [(5, .int s0), (0, .ref h_t), (1, .int x1), (2, .int x2), (3, .int x3), (4, .int x4)]) X dX7_closeFrom_27 (by decide) rfl ?_
    refine x_iload X dX7_closeFrom_29 5 rfl ?_
    refine x_aload_n X dX7_closeFrom_31 1 rfl ?_
    refine x_get X inGX7 2 (by decide) rfl tw_213 dX7_closeFrom_32 rfl 0 rfl rfl ?_
    refine x_icmp_lt (tgt := 41) X dX7_closeFrom_35 (by decide) (fun hc => ?_) (fun hc => ?_)
    · have h := h.1 hc
      refine x_iload_n X dX7_closeFrom_41 2 rfl ?_
      refine x_iconst (v := 1) X dX7_closeFrom_42 (by decide) ?_
      refine x_iadd X dX7_closeFrom_43 ?_
      refine x_istore (lv' := [(6, .int (x1 + (1 : Int32))), (5, .int s0), (0, .ref h_t), (1, .int x1), (2, .int x2), (3, .int x3), (4, .int x4)]) X dX7_closeFrom_44 (by decide) rfl ?_
      obtain ⟨n46, h⟩ := h
      exact x_sub X [2, 3, 4, 5, 6, 1, 0] rfl (k46 n46 x1 x2 x3 x4 s0 (x1 + (1 : Int32)) h)
    · have h := h.2 hc
      refine x_iload X dX7_closeFrom_38 0 rfl ?_
      exact hret _ _ _ _ dX7_closeFrom_40 rfl ⟨rfl, h⟩
  have k26 : ∀ (x1 : Int32) (x2 : Int32) (x3 : Int32) (x4 : Int32), F_X7_closeFrom_26 FA t_nodes t_near post (fun x1 x2 x3 x4 s0 => F_X7_closeFrom_27 FA t_nodes t_near post x1 x2 x3 x4 s0) x1 x2 x3 x4 → G 0 0 26 [(0, .ref h_t), (1, .int x1), (2, .int x2), (3, .int x3), (4, .int x4)] [] [(h_t, .inr (6, [.ref h_t_near, .ref h_t_fans, .int t_nodes, .int t_darks, .long t_colours])), (h_t_near, aI T 6 t_near)] := by
    intro x1 x2 x3 x4 h
    unfold F_X7_closeFrom_26 at h
    refine x_iconst (v := 0) X dX7_closeFrom_26 (by decide) ?_
    exact x_sub X [0, 1, 2, 3, 4] rfl (k27 x1 x2 x3 x4 (0 : Int32) h)
  refine x_iload X dX7_closeFrom_0 4 rfl ?_
  refine x_iconst (v := 2) X dX7_closeFrom_2 (by decide) ?_
  refine x_icmp_le (tgt := 26) X dX7_closeFrom_3 (by decide) (fun hc => ?_) (fun hc => ?_)
  · have h := h.1 hc
    exact x_sub X [0, 1, 2, 3, 4] rfl (k26 p1 p2 p3 p4 h)
  · have h := h.2 hc
    refine x_aload_n X dX7_closeFrom_6 0 rfl ?_
    refine x_iload_n X dX7_closeFrom_7 2 rfl ?_
    refine x_callVI (av := [.int p2]) (st := []) (wr := []) X (c_X7_nearOf l D T h_t h_t_near h_t_fans t_colours t_darks t_nodes t_near p2 _ h) yk_X7_nearOf tw_393 dX7_closeFrom_8 0 rfl rfl [0, 1] [] rfl rfl rfl rfl (by decide) rfl rfl (Nat.le_of_ble_eq_true rfl) (by dsimp only [eR]; omega) (by dsimp only [eR]; omega) (Nat.zero_le _) (Nat.zero_le _) (fun r8 w1 hw => ?_)
    obtain ⟨rfl, h⟩ := hw
    refine x_perm (ws2 := [(h_t, .inr (6, [.ref h_t_near, .ref h_t_fans, .int t_nodes, .int t_darks, .long t_colours])), (h_t_near, aI T 6 t_near)]) X [0, 1] rfl rfl ?_
    refine x_iload_n X dX7_closeFrom_11 1 rfl ?_
    refine x_ishr X dX7_closeFrom_12 ?_
    refine x_iconst (v := 1) X dX7_closeFrom_13 (by decide) ?_
    refine x_iand X dX7_closeFrom_14 ?_
    refine x_iconst (v := 1) X dX7_closeFrom_15 (by decide) ?_
    refine x_icmp_ne (tgt := 26) X dX7_closeFrom_16 (by decide) (fun hc => ?_) (fun hc => ?_)
    · have h := h.1 hc
      exact x_sub X [0, 1, 2, 3, 4] rfl (k26 p1 p2 p3 p4 h)
    · have h := h.2 hc
      refine x_iconst (v := 1) X dX7_closeFrom_19 (by decide) ?_
      refine x_iload X dX7_closeFrom_20 4 rfl ?_
      refine x_ishl X dX7_closeFrom_22 ?_
      refine x_goto (tgt := 27) X dX7_closeFrom_23 (by decide) ?_
      exact x_sub X [0, 1, 2, 3, 4] rfl (k27 p1 p2 p3 p4 ((1 : Int32) <<< (p4 &&& 31)) h)
theorem dX7_circles_0 : decode cX7_circles 0 = .ok (.iconst 0, 1) := by decide +kernel
theorem dX7_circles_1 : decode cX7_circles 1 = .ok (.istore_n 1, 1) := by decide +kernel
theorem dX7_circles_2 : decode cX7_circles 2 = .ok (.iconst 0, 1) := by decide +kernel
theorem dX7_circles_3 : decode cX7_circles 3 = .ok (.istore_n 2, 1) := by decide +kernel
theorem dX7_circles_4 : decode cX7_circles 4 = .ok (.iload_n 2, 1) := by decide +kernel
theorem dX7_circles_5 : decode cX7_circles 5 = .ok (.aload_n 0, 1) := by decide +kernel
theorem dX7_circles_6 : decode cX7_circles 6 = .ok (.getfield 25, 3) := by decide +kernel
theorem dX7_circles_9 : decode cX7_circles 9 = .ok (.if_icmp .ge 22, 3) := by decide +kernel
theorem dX7_circles_12 : decode cX7_circles 12 = .ok (.iload_n 1, 1) := by decide +kernel
theorem dX7_circles_13 : decode cX7_circles 13 = .ok (.aload_n 0, 1) := by decide +kernel
theorem dX7_circles_14 : decode cX7_circles 14 = .ok (.iload_n 2, 1) := by decide +kernel
theorem dX7_circles_15 : decode cX7_circles 15 = .ok (.iload_n 2, 1) := by decide +kernel
theorem dX7_circles_16 : decode cX7_circles 16 = .ok (.iconst 1, 1) := by decide +kernel
theorem dX7_circles_17 : decode cX7_circles 17 = .ok (.iload_n 2, 1) := by decide +kernel
theorem dX7_circles_18 : decode cX7_circles 18 = .ok (.ishl, 1) := by decide +kernel
theorem dX7_circles_19 : decode cX7_circles 19 = .ok (.iconst 1, 1) := by decide +kernel
theorem dX7_circles_20 : decode cX7_circles 20 = .ok (.invokevirtual 60, 3) := by decide +kernel
theorem dX7_circles_23 : decode cX7_circles 23 = .ok (.ior, 1) := by decide +kernel
theorem dX7_circles_24 : decode cX7_circles 24 = .ok (.istore_n 1, 1) := by decide +kernel
theorem dX7_circles_25 : decode cX7_circles 25 = .ok (.iinc 2 1, 3) := by decide +kernel
theorem dX7_circles_28 : decode cX7_circles 28 = .ok (.goto (-24), 3) := by decide +kernel
theorem dX7_circles_31 : decode cX7_circles 31 = .ok (.iload_n 1, 1) := by decide +kernel
theorem dX7_circles_32 : decode cX7_circles 32 = .ok (.ireturn, 1) := by decide +kernel
set_option maxHeartbeats 4000000 in
set_option maxRecDepth 100000 in
theorem c_X7_circles (l : Launch) (D : eD) (T : Nat → ClassId) (h_t h_t_near h_t_fans : Nat) (t_colours : Int64) (t_darks : Int32) (t_nodes : Int32) (t_near : Nat → Int32) (post : Int32 → Prop) (h : F_X7_circles t_nodes t_near post) : cI l D T yX7_circles cX7_circles 3 (some .int) 22 547 0 0 [.ref h_t] [(h_t, .inr (6, [.ref h_t_near, .ref h_t_fans, .int t_nodes, .int t_darks, .long t_colours])), (h_t_near, aI T 6 t_near)] (fun r w1 => w1 = [(h_t, .inr (6, [.ref h_t_near, .ref h_t_fans, .int t_nodes, .int t_darks, .long t_colours])), (h_t_near, aI T 6 t_near)] ∧ post r ) := by
  refine xI_of (ty := .int) (by decide +kernel) (Nat.le_of_ble_eq_true rfl) rfl ?_
  intro G X hret
  change G 0 0 0 [(0, .ref h_t)] [] [(h_t, .inr (6, [.ref h_t_near, .ref h_t_fans, .int t_nodes, .int t_darks, .long t_colours])), (h_t_near, aI T 6 t_near)]
  unfold F_X7_circles at h
  have k4 : ∀ (n4 : Nat) (x1 : Int32) (x2 : Int32), F_X7_circles_4 t_nodes t_near post n4 x1 x2 → G 0 0 4 [(0, .ref h_t), (1, .int x1), (2, .int x2)] [] [(h_t, .inr (6, [.ref h_t_near, .ref h_t_fans, .int t_nodes, .int t_darks, .long t_colours])), (h_t_near, aI T 6 t_near)] := by
    intro n4
    induction n4 with
    | zero => intro x1 x2 h; exact h.elim
    | succ n4 ih4 =>
      intro x1 x2 h
      rw [F_X7_circles_4] at h
      refine x_iload_n X dX7_circles_4 2 rfl ?_
      refine x_aload_n X dX7_circles_5 0 rfl ?_
      refine x_get X inGX7 2 (by decide) rfl tw_213 dX7_circles_6 rfl 0 rfl rfl ?_
      refine x_icmp_ge (tgt := 31) X dX7_circles_9 (by decide) (fun hc => ?_) (fun hc => ?_)
      · have h := h.1 hc
        refine x_iload_n X dX7_circles_31 1 rfl ?_
        exact hret _ _ _ _ dX7_circles_32 rfl ⟨rfl, h⟩
      · have h := h.2 hc
        refine x_iload_n X dX7_circles_12 1 rfl ?_
        refine x_aload_n X dX7_circles_13 0 rfl ?_
        refine x_iload_n X dX7_circles_14 2 rfl ?_
        refine x_iload_n X dX7_circles_15 2 rfl ?_
        refine x_iconst (v := 1) X dX7_circles_16 (by decide) ?_
        refine x_iload_n X dX7_circles_17 2 rfl ?_
        refine x_ishl X dX7_circles_18 ?_
        refine x_iconst (v := 1) X dX7_circles_19 (by decide) ?_
        refine x_callVI (av := [.int x2, .int x2, .int ((1 : Int32) <<< (x2 &&& 31)), .int (1 : Int32)]) (st := [.int x1]) (wr := []) X (c_X7_closeFrom l D T h_t h_t_near h_t_fans 10 t_colours t_darks t_nodes t_near x2 x2 ((1 : Int32) <<< (x2 &&& 31)) (1 : Int32) _ h) yk_X7_closeFrom tw_414 dX7_circles_20 0 rfl rfl [0, 1] [] rfl rfl rfl rfl (by decide) rfl rfl (Nat.le_of_ble_eq_true rfl) (Nat.le_of_ble_eq_true rfl) (Nat.le_of_ble_eq_true rfl) (Nat.zero_le _) (Nat.zero_le _) (fun r20 w1 hw => ?_)
        obtain ⟨rfl, h⟩ := hw
        refine x_perm (ws2 := [(h_t, .inr (6, [.ref h_t_near, .ref h_t_fans, .int t_nodes, .int t_darks, .long t_colours])), (h_t_near, aI T 6 t_near)]) X [0, 1] rfl rfl ?_
        refine x_ior X dX7_circles_23 ?_
        refine x_istore_n (lv' := [(1, .int (x1 ||| r20)), (0, .ref h_t), (2, .int x2)]) X dX7_circles_24 (by decide) rfl ?_
        refine x_iinc (v := (x2 + 1)) (lv' := [(2, .int (x2 + 1)), (1, .int (x1 ||| r20)), (0, .ref h_t)]) X dX7_circles_25 2 rfl rfl (by decide) rfl ?_
        refine x_goto (tgt := 4) X dX7_circles_28 (by decide) ?_
        exact x_sub X [2, 1, 0] rfl (ih4 (x1 ||| r20) (x2 + 1) h)
  refine x_iconst (v := 0) X dX7_circles_0 (by decide) ?_
  refine x_istore_n (lv' := [(1, .int (0 : Int32)), (0, .ref h_t)]) X dX7_circles_1 (by decide) rfl ?_
  refine x_iconst (v := 0) X dX7_circles_2 (by decide) ?_
  refine x_istore_n (lv' := [(2, .int (0 : Int32)), (1, .int (0 : Int32)), (0, .ref h_t)]) X dX7_circles_3 (by decide) rfl ?_
  obtain ⟨n4, h⟩ := h
  exact x_sub X [2, 1, 0] rfl (k4 n4 (0 : Int32) (0 : Int32) h)
theorem dX7_joinsOneColour_0 : decode cX7_joinsOneColour 0 = .ok (.iconst 0, 1) := by decide +kernel
theorem dX7_joinsOneColour_1 : decode cX7_joinsOneColour 1 = .ok (.istore_n 1, 1) := by decide +kernel
theorem dX7_joinsOneColour_2 : decode cX7_joinsOneColour 2 = .ok (.iload_n 1, 1) := by decide +kernel
theorem dX7_joinsOneColour_3 : decode cX7_joinsOneColour 3 = .ok (.aload_n 0, 1) := by decide +kernel
theorem dX7_joinsOneColour_4 : decode cX7_joinsOneColour 4 = .ok (.getfield 25, 3) := by decide +kernel
theorem dX7_joinsOneColour_7 : decode cX7_joinsOneColour 7 = .ok (.if_icmp .ge 47, 3) := by decide +kernel
theorem dX7_joinsOneColour_10 : decode cX7_joinsOneColour 10 = .ok (.aload_n 0, 1) := by decide +kernel
theorem dX7_joinsOneColour_11 : decode cX7_joinsOneColour 11 = .ok (.getfield 29, 3) := by decide +kernel
theorem dX7_joinsOneColour_14 : decode cX7_joinsOneColour 14 = .ok (.iload_n 1, 1) := by decide +kernel
theorem dX7_joinsOneColour_15 : decode cX7_joinsOneColour 15 = .ok (.ishr, 1) := by decide +kernel
theorem dX7_joinsOneColour_16 : decode cX7_joinsOneColour 16 = .ok (.iconst 1, 1) := by decide +kernel
theorem dX7_joinsOneColour_17 : decode cX7_joinsOneColour 17 = .ok (.iand, 1) := by decide +kernel
theorem dX7_joinsOneColour_18 : decode cX7_joinsOneColour 18 = .ok (.iconst 1, 1) := by decide +kernel
theorem dX7_joinsOneColour_19 : decode cX7_joinsOneColour 19 = .ok (.if_icmp .ne 10, 3) := by decide +kernel
theorem dX7_joinsOneColour_22 : decode cX7_joinsOneColour 22 = .ok (.aload_n 0, 1) := by decide +kernel
theorem dX7_joinsOneColour_23 : decode cX7_joinsOneColour 23 = .ok (.getfield 29, 3) := by decide +kernel
theorem dX7_joinsOneColour_26 : decode cX7_joinsOneColour 26 = .ok (.goto 9, 3) := by decide +kernel
theorem dX7_joinsOneColour_29 : decode cX7_joinsOneColour 29 = .ok (.aload_n 0, 1) := by decide +kernel
theorem dX7_joinsOneColour_30 : decode cX7_joinsOneColour 30 = .ok (.getfield 29, 3) := by decide +kernel
theorem dX7_joinsOneColour_33 : decode cX7_joinsOneColour 33 = .ok (.iconst (-1), 1) := by decide +kernel
theorem dX7_joinsOneColour_34 : decode cX7_joinsOneColour 34 = .ok (.ixor, 1) := by decide +kernel
theorem dX7_joinsOneColour_35 : decode cX7_joinsOneColour 35 = .ok (.istore_n 2, 1) := by decide +kernel
theorem dX7_joinsOneColour_36 : decode cX7_joinsOneColour 36 = .ok (.aload_n 0, 1) := by decide +kernel
theorem dX7_joinsOneColour_37 : decode cX7_joinsOneColour 37 = .ok (.iload_n 1, 1) := by decide +kernel
theorem dX7_joinsOneColour_38 : decode cX7_joinsOneColour 38 = .ok (.invokevirtual 46, 3) := by decide +kernel
theorem dX7_joinsOneColour_41 : decode cX7_joinsOneColour 41 = .ok (.iload_n 2, 1) := by decide +kernel
theorem dX7_joinsOneColour_42 : decode cX7_joinsOneColour 42 = .ok (.iand, 1) := by decide +kernel
theorem dX7_joinsOneColour_43 : decode cX7_joinsOneColour 43 = .ok (.ifCond .eq 5, 3) := by decide +kernel
theorem dX7_joinsOneColour_46 : decode cX7_joinsOneColour 46 = .ok (.iconst 1, 1) := by decide +kernel
theorem dX7_joinsOneColour_47 : decode cX7_joinsOneColour 47 = .ok (.ireturn, 1) := by decide +kernel
theorem dX7_joinsOneColour_48 : decode cX7_joinsOneColour 48 = .ok (.iinc 1 1, 3) := by decide +kernel
theorem dX7_joinsOneColour_51 : decode cX7_joinsOneColour 51 = .ok (.goto (-49), 3) := by decide +kernel
theorem dX7_joinsOneColour_54 : decode cX7_joinsOneColour 54 = .ok (.iconst 0, 1) := by decide +kernel
theorem dX7_joinsOneColour_55 : decode cX7_joinsOneColour 55 = .ok (.ireturn, 1) := by decide +kernel
set_option maxHeartbeats 4000000 in
set_option maxRecDepth 100000 in
theorem c_X7_joinsOneColour (l : Launch) (D : eD) (T : Nat → ClassId) (h_t h_t_near h_t_fans : Nat) (t_colours : Int64) (t_darks : Int32) (t_nodes : Int32) (t_near : Nat → Int32) (post : Int32 → Prop) (h : F_X7_joinsOneColour t_darks t_nodes t_near post) : cI l D T yX7_joinsOneColour cX7_joinsOneColour 3 (some .boolean) 1 21 0 0 [.ref h_t] [(h_t, .inr (6, [.ref h_t_near, .ref h_t_fans, .int t_nodes, .int t_darks, .long t_colours])), (h_t_near, aI T 6 t_near)] (fun r w1 => w1 = [(h_t, .inr (6, [.ref h_t_near, .ref h_t_fans, .int t_nodes, .int t_darks, .long t_colours])), (h_t_near, aI T 6 t_near)] ∧ post r ) := by
  refine xI_of (ty := .boolean) (by decide +kernel) (Nat.le_of_ble_eq_true rfl) rfl ?_
  intro G X hret
  change G 0 0 0 [(0, .ref h_t)] [] [(h_t, .inr (6, [.ref h_t_near, .ref h_t_fans, .int t_nodes, .int t_darks, .long t_colours])), (h_t_near, aI T 6 t_near)]
  unfold F_X7_joinsOneColour at h
  have k2 : ∀ (n2 : Nat) (x1 : Int32), F_X7_joinsOneColour_2 t_darks t_nodes t_near post n2 x1 → G 0 0 2 [(0, .ref h_t), (1, .int x1)] [] [(h_t, .inr (6, [.ref h_t_near, .ref h_t_fans, .int t_nodes, .int t_darks, .long t_colours])), (h_t_near, aI T 6 t_near)] := by
    intro n2
    induction n2 with
    | zero => intro x1 h; exact h.elim
    | succ n2 ih2 =>
      intro x1 h
      rw [F_X7_joinsOneColour_2] at h
      have k35 : ∀ (x1 : Int32) (s0 : Int32), F_X7_joinsOneColour_35 t_darks t_nodes t_near post (F_X7_joinsOneColour_2 t_darks t_nodes t_near post n2) x1 s0 → G 0 0 35 [(0, .ref h_t), (1, .int x1)] [.int s0] [(h_t, .inr (6, [.ref h_t_near, .ref h_t_fans, .int t_nodes, .int t_darks, .long t_colours])), (h_t_near, aI T 6 t_near)] := by
        intro x1 s0 h
        unfold F_X7_joinsOneColour_35 at h
        refine x_istore_n (lv' := [(2, .int s0), (0, .ref h_t), (1, .int x1)]) X dX7_joinsOneColour_35 (by decide) rfl ?_
        refine x_aload_n X dX7_joinsOneColour_36 1 rfl ?_
        refine x_iload_n X dX7_joinsOneColour_37 2 rfl ?_
        refine x_callVI (av := [.int x1]) (st := []) (wr := []) X (c_X7_nearOf l D T h_t h_t_near h_t_fans t_colours t_darks t_nodes t_near x1 _ h) yk_X7_nearOf tw_393 dX7_joinsOneColour_38 0 rfl rfl [0, 1] [] rfl rfl rfl rfl (by decide) rfl rfl (Nat.le_of_ble_eq_true rfl) (Nat.le_of_ble_eq_true rfl) (Nat.le_of_ble_eq_true rfl) (Nat.zero_le _) (Nat.zero_le _) (fun r38 w1 hw => ?_)
        obtain ⟨rfl, h⟩ := hw
        refine x_perm (ws2 := [(h_t, .inr (6, [.ref h_t_near, .ref h_t_fans, .int t_nodes, .int t_darks, .long t_colours])), (h_t_near, aI T 6 t_near)]) X [0, 1] rfl rfl ?_
        refine x_iload_n X dX7_joinsOneColour_41 0 rfl ?_
        refine x_iand X dX7_joinsOneColour_42 ?_
        refine x_if_eq (tgt := 48) X dX7_joinsOneColour_43 (by decide) (fun hc => ?_) (fun hc => ?_)
        · have h := h.1 hc
          refine x_iinc (v := (x1 + 1)) (lv' := [(1, .int (x1 + 1)), (2, .int s0), (0, .ref h_t)]) X dX7_joinsOneColour_48 2 rfl rfl (by decide) rfl ?_
          refine x_goto (tgt := 2) X dX7_joinsOneColour_51 (by decide) ?_
          exact x_sub X [2, 0] rfl (ih2 (x1 + 1) h)
        · have h := h.2 hc
          refine x_iconst (v := 1) X dX7_joinsOneColour_46 (by decide) ?_
          exact hret _ _ _ _ dX7_joinsOneColour_47 rfl ⟨rfl, h⟩
      refine x_iload_n X dX7_joinsOneColour_2 1 rfl ?_
      refine x_aload_n X dX7_joinsOneColour_3 0 rfl ?_
      refine x_get X inGX7 2 (by decide) rfl tw_213 dX7_joinsOneColour_4 rfl 0 rfl rfl ?_
      refine x_icmp_ge (tgt := 54) X dX7_joinsOneColour_7 (by decide) (fun hc => ?_) (fun hc => ?_)
      · have h := h.1 hc
        refine x_iconst (v := 0) X dX7_joinsOneColour_54 (by decide) ?_
        obtain ⟨hz, h⟩ := h
        exact hret _ _ _ _ dX7_joinsOneColour_55 (e_nz hz) ⟨rfl, h⟩
      · have h := h.2 hc
        refine x_aload_n X dX7_joinsOneColour_10 0 rfl ?_
        refine x_get X inGX7 3 (by decide) rfl tw_216 dX7_joinsOneColour_11 rfl 0 rfl rfl ?_
        refine x_iload_n X dX7_joinsOneColour_14 1 rfl ?_
        refine x_ishr X dX7_joinsOneColour_15 ?_
        refine x_iconst (v := 1) X dX7_joinsOneColour_16 (by decide) ?_
        refine x_iand X dX7_joinsOneColour_17 ?_
        refine x_iconst (v := 1) X dX7_joinsOneColour_18 (by decide) ?_
        refine x_icmp_ne (tgt := 29) X dX7_joinsOneColour_19 (by decide) (fun hc => ?_) (fun hc => ?_)
        · have h := h.1 hc
          refine x_aload_n X dX7_joinsOneColour_29 0 rfl ?_
          refine x_get X inGX7 3 (by decide) rfl tw_216 dX7_joinsOneColour_30 rfl 0 rfl rfl ?_
          refine x_iconst (v := -1) X dX7_joinsOneColour_33 (by decide) ?_
          refine x_ixor X dX7_joinsOneColour_34 ?_
          exact x_sub X [0, 1] rfl (k35 x1 (t_darks ^^^ (-1 : Int32)) h)
        · have h := h.2 hc
          refine x_aload_n X dX7_joinsOneColour_22 0 rfl ?_
          refine x_get X inGX7 3 (by decide) rfl tw_216 dX7_joinsOneColour_23 rfl 0 rfl rfl ?_
          refine x_goto (tgt := 35) X dX7_joinsOneColour_26 (by decide) ?_
          exact x_sub X [0, 1] rfl (k35 x1 t_darks h)
  refine x_iconst (v := 0) X dX7_joinsOneColour_0 (by decide) ?_
  refine x_istore_n (lv' := [(1, .int (0 : Int32)), (0, .ref h_t)]) X dX7_joinsOneColour_1 (by decide) rfl ?_
  obtain ⟨n2, h⟩ := h
  exact x_sub X [1, 0] rfl (k2 n2 (0 : Int32) h)
theorem dX7_mostNear_0 : decode cX7_mostNear 0 = .ok (.iconst 0, 1) := by decide +kernel
theorem dX7_mostNear_1 : decode cX7_mostNear 1 = .ok (.istore_n 1, 1) := by decide +kernel
theorem dX7_mostNear_2 : decode cX7_mostNear 2 = .ok (.iconst 0, 1) := by decide +kernel
theorem dX7_mostNear_3 : decode cX7_mostNear 3 = .ok (.istore_n 2, 1) := by decide +kernel
theorem dX7_mostNear_4 : decode cX7_mostNear 4 = .ok (.iload_n 2, 1) := by decide +kernel
theorem dX7_mostNear_5 : decode cX7_mostNear 5 = .ok (.aload_n 0, 1) := by decide +kernel
theorem dX7_mostNear_6 : decode cX7_mostNear 6 = .ok (.getfield 25, 3) := by decide +kernel
theorem dX7_mostNear_9 : decode cX7_mostNear 9 = .ok (.if_icmp .ge 22, 3) := by decide +kernel
theorem dX7_mostNear_12 : decode cX7_mostNear 12 = .ok (.iload_n 1, 1) := by decide +kernel
theorem dX7_mostNear_13 : decode cX7_mostNear 13 = .ok (.aload_n 0, 1) := by decide +kernel
theorem dX7_mostNear_14 : decode cX7_mostNear 14 = .ok (.iload_n 2, 1) := by decide +kernel
theorem dX7_mostNear_15 : decode cX7_mostNear 15 = .ok (.invokevirtual 46, 3) := by decide +kernel
theorem dX7_mostNear_18 : decode cX7_mostNear 18 = .ok (.invokestatic 49, 3) := by decide +kernel
theorem dX7_mostNear_21 : decode cX7_mostNear 21 = .ok (.invokestatic 54, 3) := by decide +kernel
theorem dX7_mostNear_24 : decode cX7_mostNear 24 = .ok (.istore_n 1, 1) := by decide +kernel
theorem dX7_mostNear_25 : decode cX7_mostNear 25 = .ok (.iinc 2 1, 3) := by decide +kernel
theorem dX7_mostNear_28 : decode cX7_mostNear 28 = .ok (.goto (-24), 3) := by decide +kernel
theorem dX7_mostNear_31 : decode cX7_mostNear 31 = .ok (.iload_n 1, 1) := by decide +kernel
theorem dX7_mostNear_32 : decode cX7_mostNear 32 = .ok (.ireturn, 1) := by decide +kernel
set_option maxHeartbeats 4000000 in
set_option maxRecDepth 100000 in
theorem c_X7_mostNear (l : Launch) (D : eD) (T : Nat → ClassId) (h_t h_t_near h_t_fans : Nat) (t_colours : Int64) (t_darks : Int32) (t_nodes : Int32) (t_near : Nat → Int32) (post : Int32 → Prop) (h : F_X7_mostNear t_nodes t_near post) : cI l D T yX7_mostNear cX7_mostNear 3 (some .int) 1 50 0 0 [.ref h_t] [(h_t, .inr (6, [.ref h_t_near, .ref h_t_fans, .int t_nodes, .int t_darks, .long t_colours])), (h_t_near, aI T 6 t_near)] (fun r w1 => w1 = [(h_t, .inr (6, [.ref h_t_near, .ref h_t_fans, .int t_nodes, .int t_darks, .long t_colours])), (h_t_near, aI T 6 t_near)] ∧ post r ) := by
  refine xI_of (ty := .int) (by decide +kernel) (Nat.le_of_ble_eq_true rfl) rfl ?_
  intro G X hret
  change G 0 0 0 [(0, .ref h_t)] [] [(h_t, .inr (6, [.ref h_t_near, .ref h_t_fans, .int t_nodes, .int t_darks, .long t_colours])), (h_t_near, aI T 6 t_near)]
  unfold F_X7_mostNear at h
  have k4 : ∀ (n4 : Nat) (x1 : Int32) (x2 : Int32), F_X7_mostNear_4 t_nodes t_near post n4 x1 x2 → G 0 0 4 [(0, .ref h_t), (1, .int x1), (2, .int x2)] [] [(h_t, .inr (6, [.ref h_t_near, .ref h_t_fans, .int t_nodes, .int t_darks, .long t_colours])), (h_t_near, aI T 6 t_near)] := by
    intro n4
    induction n4 with
    | zero => intro x1 x2 h; exact h.elim
    | succ n4 ih4 =>
      intro x1 x2 h
      rw [F_X7_mostNear_4] at h
      refine x_iload_n X dX7_mostNear_4 2 rfl ?_
      refine x_aload_n X dX7_mostNear_5 0 rfl ?_
      refine x_get X inGX7 2 (by decide) rfl tw_213 dX7_mostNear_6 rfl 0 rfl rfl ?_
      refine x_icmp_ge (tgt := 31) X dX7_mostNear_9 (by decide) (fun hc => ?_) (fun hc => ?_)
      · have h := h.1 hc
        refine x_iload_n X dX7_mostNear_31 1 rfl ?_
        exact hret _ _ _ _ dX7_mostNear_32 rfl ⟨rfl, h⟩
      · have h := h.2 hc
        refine x_iload_n X dX7_mostNear_12 1 rfl ?_
        refine x_aload_n X dX7_mostNear_13 0 rfl ?_
        refine x_iload_n X dX7_mostNear_14 2 rfl ?_
        refine x_callVI (av := [.int x2]) (st := [.int x1]) (wr := []) X (c_X7_nearOf l D T h_t h_t_near h_t_fans t_colours t_darks t_nodes t_near x2 _ h) yk_X7_nearOf tw_393 dX7_mostNear_15 0 rfl rfl [0, 1] [] rfl rfl rfl rfl (by decide) rfl rfl (Nat.le_of_ble_eq_true rfl) (Nat.le_of_ble_eq_true rfl) (Nat.le_of_ble_eq_true rfl) (Nat.zero_le _) (Nat.zero_le _) (fun r15 w1 hw => ?_)
        obtain ⟨rfl, h⟩ := hw
        refine x_perm (ws2 := [(h_t, .inr (6, [.ref h_t_near, .ref h_t_fans, .int t_nodes, .int t_darks, .long t_colours])), (h_t_near, aI T 6 t_near)]) X [0, 1] rfl rfl ?_
        refine x_callSI (av := [.int r15]) (st := [.int x1]) (wr := [(h_t, .inr (6, [.ref h_t_near, .ref h_t_fans, .int t_nodes, .int t_darks, .long t_colours])), (h_t_near, aI T 6 t_near)]) X (c_J6_bitCount_0f7a4 l D T  r15 _ h) yk_J6_bitCount_0f7a4 tw_397 dX7_mostNear_18 [] [0, 1] rfl rfl rfl rfl (by decide) rfl rfl (Nat.le_of_ble_eq_true rfl) (Nat.le_of_ble_eq_true rfl) (Nat.le_of_ble_eq_true rfl) (Nat.zero_le _) (Nat.zero_le _) (fun r18 w1 hw => ?_)
        obtain ⟨rfl, h⟩ := hw
        refine x_perm (ws2 := [(h_t, .inr (6, [.ref h_t_near, .ref h_t_fans, .int t_nodes, .int t_darks, .long t_colours])), (h_t_near, aI T 6 t_near)]) X [0, 1] rfl rfl ?_
        refine x_mmax X tw_403 tw_404 tw_12 tw_405 (Nat.le_of_ble_eq_true rfl) (Nat.le_of_ble_eq_true rfl) (Nat.le_of_ble_eq_true rfl) (Nat.zero_le _) (Nat.zero_le _) dX7_mostNear_21 ?_
        refine x_istore_n (lv' := [(1, .int (if x1 < r18 then r18 else x1)), (0, .ref h_t), (2, .int x2)]) X dX7_mostNear_24 (by decide) rfl ?_
        refine x_iinc (v := (x2 + 1)) (lv' := [(2, .int (x2 + 1)), (1, .int (if x1 < r18 then r18 else x1)), (0, .ref h_t)]) X dX7_mostNear_25 2 rfl rfl (by decide) rfl ?_
        refine x_goto (tgt := 4) X dX7_mostNear_28 (by decide) ?_
        exact x_sub X [2, 1, 0] rfl (ih4 (if x1 < r18 then r18 else x1) (x2 + 1) h)
  refine x_iconst (v := 0) X dX7_mostNear_0 (by decide) ?_
  refine x_istore_n (lv' := [(1, .int (0 : Int32)), (0, .ref h_t)]) X dX7_mostNear_1 (by decide) rfl ?_
  refine x_iconst (v := 0) X dX7_mostNear_2 (by decide) ?_
  refine x_istore_n (lv' := [(2, .int (0 : Int32)), (1, .int (0 : Int32)), (0, .ref h_t)]) X dX7_mostNear_3 (by decide) rfl ?_
  obtain ⟨n4, h⟩ := h
  exact x_sub X [2, 1, 0] rfl (k4 n4 (0 : Int32) (0 : Int32) h)
theorem dX7_leastNear_0 : decode cX7_leastNear 0 = .ok (.bipush 6, 2) := by decide +kernel
theorem dX7_leastNear_2 : decode cX7_leastNear 2 = .ok (.istore_n 1, 1) := by decide +kernel
theorem dX7_leastNear_3 : decode cX7_leastNear 3 = .ok (.iconst 0, 1) := by decide +kernel
theorem dX7_leastNear_4 : decode cX7_leastNear 4 = .ok (.istore_n 2, 1) := by decide +kernel
theorem dX7_leastNear_5 : decode cX7_leastNear 5 = .ok (.iload_n 2, 1) := by decide +kernel
theorem dX7_leastNear_6 : decode cX7_leastNear 6 = .ok (.aload_n 0, 1) := by decide +kernel
theorem dX7_leastNear_7 : decode cX7_leastNear 7 = .ok (.getfield 25, 3) := by decide +kernel
theorem dX7_leastNear_10 : decode cX7_leastNear 10 = .ok (.if_icmp .ge 22, 3) := by decide +kernel
theorem dX7_leastNear_13 : decode cX7_leastNear 13 = .ok (.iload_n 1, 1) := by decide +kernel
theorem dX7_leastNear_14 : decode cX7_leastNear 14 = .ok (.aload_n 0, 1) := by decide +kernel
theorem dX7_leastNear_15 : decode cX7_leastNear 15 = .ok (.iload_n 2, 1) := by decide +kernel
theorem dX7_leastNear_16 : decode cX7_leastNear 16 = .ok (.invokevirtual 46, 3) := by decide +kernel
theorem dX7_leastNear_19 : decode cX7_leastNear 19 = .ok (.invokestatic 49, 3) := by decide +kernel
theorem dX7_leastNear_22 : decode cX7_leastNear 22 = .ok (.invokestatic 19, 3) := by decide +kernel
theorem dX7_leastNear_25 : decode cX7_leastNear 25 = .ok (.istore_n 1, 1) := by decide +kernel
theorem dX7_leastNear_26 : decode cX7_leastNear 26 = .ok (.iinc 2 1, 3) := by decide +kernel
theorem dX7_leastNear_29 : decode cX7_leastNear 29 = .ok (.goto (-24), 3) := by decide +kernel
theorem dX7_leastNear_32 : decode cX7_leastNear 32 = .ok (.iload_n 1, 1) := by decide +kernel
theorem dX7_leastNear_33 : decode cX7_leastNear 33 = .ok (.ireturn, 1) := by decide +kernel
set_option maxHeartbeats 4000000 in
set_option maxRecDepth 100000 in
theorem c_X7_leastNear (l : Launch) (D : eD) (T : Nat → ClassId) (h_t h_t_near h_t_fans : Nat) (t_colours : Int64) (t_darks : Int32) (t_nodes : Int32) (t_near : Nat → Int32) (post : Int32 → Prop) (h : F_X7_leastNear t_nodes t_near post) : cI l D T yX7_leastNear cX7_leastNear 3 (some .int) 1 50 0 0 [.ref h_t] [(h_t, .inr (6, [.ref h_t_near, .ref h_t_fans, .int t_nodes, .int t_darks, .long t_colours])), (h_t_near, aI T 6 t_near)] (fun r w1 => w1 = [(h_t, .inr (6, [.ref h_t_near, .ref h_t_fans, .int t_nodes, .int t_darks, .long t_colours])), (h_t_near, aI T 6 t_near)] ∧ post r ) := by
  refine xI_of (ty := .int) (by decide +kernel) (Nat.le_of_ble_eq_true rfl) rfl ?_
  intro G X hret
  change G 0 0 0 [(0, .ref h_t)] [] [(h_t, .inr (6, [.ref h_t_near, .ref h_t_fans, .int t_nodes, .int t_darks, .long t_colours])), (h_t_near, aI T 6 t_near)]
  unfold F_X7_leastNear at h
  have k5 : ∀ (n5 : Nat) (x1 : Int32) (x2 : Int32), F_X7_leastNear_5 t_nodes t_near post n5 x1 x2 → G 0 0 5 [(0, .ref h_t), (1, .int x1), (2, .int x2)] [] [(h_t, .inr (6, [.ref h_t_near, .ref h_t_fans, .int t_nodes, .int t_darks, .long t_colours])), (h_t_near, aI T 6 t_near)] := by
    intro n5
    induction n5 with
    | zero => intro x1 x2 h; exact h.elim
    | succ n5 ih5 =>
      intro x1 x2 h
      rw [F_X7_leastNear_5] at h
      refine x_iload_n X dX7_leastNear_5 2 rfl ?_
      refine x_aload_n X dX7_leastNear_6 0 rfl ?_
      refine x_get X inGX7 2 (by decide) rfl tw_213 dX7_leastNear_7 rfl 0 rfl rfl ?_
      refine x_icmp_ge (tgt := 32) X dX7_leastNear_10 (by decide) (fun hc => ?_) (fun hc => ?_)
      · have h := h.1 hc
        refine x_iload_n X dX7_leastNear_32 1 rfl ?_
        exact hret _ _ _ _ dX7_leastNear_33 rfl ⟨rfl, h⟩
      · have h := h.2 hc
        refine x_iload_n X dX7_leastNear_13 1 rfl ?_
        refine x_aload_n X dX7_leastNear_14 0 rfl ?_
        refine x_iload_n X dX7_leastNear_15 2 rfl ?_
        refine x_callVI (av := [.int x2]) (st := [.int x1]) (wr := []) X (c_X7_nearOf l D T h_t h_t_near h_t_fans t_colours t_darks t_nodes t_near x2 _ h) yk_X7_nearOf tw_393 dX7_leastNear_16 0 rfl rfl [0, 1] [] rfl rfl rfl rfl (by decide) rfl rfl (Nat.le_of_ble_eq_true rfl) (Nat.le_of_ble_eq_true rfl) (Nat.le_of_ble_eq_true rfl) (Nat.zero_le _) (Nat.zero_le _) (fun r16 w1 hw => ?_)
        obtain ⟨rfl, h⟩ := hw
        refine x_perm (ws2 := [(h_t, .inr (6, [.ref h_t_near, .ref h_t_fans, .int t_nodes, .int t_darks, .long t_colours])), (h_t_near, aI T 6 t_near)]) X [0, 1] rfl rfl ?_
        refine x_callSI (av := [.int r16]) (st := [.int x1]) (wr := [(h_t, .inr (6, [.ref h_t_near, .ref h_t_fans, .int t_nodes, .int t_darks, .long t_colours])), (h_t_near, aI T 6 t_near)]) X (c_J6_bitCount_0f7a4 l D T  r16 _ h) yk_J6_bitCount_0f7a4 tw_397 dX7_leastNear_19 [] [0, 1] rfl rfl rfl rfl (by decide) rfl rfl (Nat.le_of_ble_eq_true rfl) (Nat.le_of_ble_eq_true rfl) (Nat.le_of_ble_eq_true rfl) (Nat.zero_le _) (Nat.zero_le _) (fun r19 w1 hw => ?_)
        obtain ⟨rfl, h⟩ := hw
        refine x_perm (ws2 := [(h_t, .inr (6, [.ref h_t_near, .ref h_t_fans, .int t_nodes, .int t_darks, .long t_colours])), (h_t_near, aI T 6 t_near)]) X [0, 1] rfl rfl ?_
        refine x_mmin X tw_352 tw_353 tw_12 tw_354 (Nat.le_of_ble_eq_true rfl) (Nat.le_of_ble_eq_true rfl) (Nat.le_of_ble_eq_true rfl) (Nat.zero_le _) (Nat.zero_le _) dX7_leastNear_22 ?_
        refine x_istore_n (lv' := [(1, .int (if r19 < x1 then r19 else x1)), (0, .ref h_t), (2, .int x2)]) X dX7_leastNear_25 (by decide) rfl ?_
        refine x_iinc (v := (x2 + 1)) (lv' := [(2, .int (x2 + 1)), (1, .int (if r19 < x1 then r19 else x1)), (0, .ref h_t)]) X dX7_leastNear_26 2 rfl rfl (by decide) rfl ?_
        refine x_goto (tgt := 5) X dX7_leastNear_29 (by decide) ?_
        exact x_sub X [2, 1, 0] rfl (ih5 (if r19 < x1 then r19 else x1) (x2 + 1) h)
  refine x_bipush (v := 6) X dX7_leastNear_0 (by decide) ?_
  refine x_istore_n (lv' := [(1, .int (6 : Int32)), (0, .ref h_t)]) X dX7_leastNear_2 (by decide) rfl ?_
  refine x_iconst (v := 0) X dX7_leastNear_3 (by decide) ?_
  refine x_istore_n (lv' := [(2, .int (0 : Int32)), (1, .int (6 : Int32)), (0, .ref h_t)]) X dX7_leastNear_4 (by decide) rfl ?_
  obtain ⟨n5, h⟩ := h
  exact x_sub X [2, 1, 0] rfl (k5 n5 (6 : Int32) (0 : Int32) h)
theorem dX7_oneStepOn_0 : decode cX7_oneStepOn 0 = .ok (.iload_n 1, 1) := by decide +kernel
theorem dX7_oneStepOn_1 : decode cX7_oneStepOn 1 = .ok (.istore_n 2, 1) := by decide +kernel
theorem dX7_oneStepOn_2 : decode cX7_oneStepOn 2 = .ok (.iconst 0, 1) := by decide +kernel
theorem dX7_oneStepOn_3 : decode cX7_oneStepOn 3 = .ok (.istore_n 3, 1) := by decide +kernel
theorem dX7_oneStepOn_4 : decode cX7_oneStepOn 4 = .ok (.iload_n 3, 1) := by decide +kernel
theorem dX7_oneStepOn_5 : decode cX7_oneStepOn 5 = .ok (.aload_n 0, 1) := by decide +kernel
theorem dX7_oneStepOn_6 : decode cX7_oneStepOn 6 = .ok (.getfield 25, 3) := by decide +kernel
theorem dX7_oneStepOn_9 : decode cX7_oneStepOn 9 = .ok (.if_icmp .ge 26, 3) := by decide +kernel
theorem dX7_oneStepOn_12 : decode cX7_oneStepOn 12 = .ok (.iload_n 1, 1) := by decide +kernel
theorem dX7_oneStepOn_13 : decode cX7_oneStepOn 13 = .ok (.iload_n 3, 1) := by decide +kernel
theorem dX7_oneStepOn_14 : decode cX7_oneStepOn 14 = .ok (.ishr, 1) := by decide +kernel
theorem dX7_oneStepOn_15 : decode cX7_oneStepOn 15 = .ok (.iconst 1, 1) := by decide +kernel
theorem dX7_oneStepOn_16 : decode cX7_oneStepOn 16 = .ok (.iand, 1) := by decide +kernel
theorem dX7_oneStepOn_17 : decode cX7_oneStepOn 17 = .ok (.iconst 1, 1) := by decide +kernel
theorem dX7_oneStepOn_18 : decode cX7_oneStepOn 18 = .ok (.if_icmp .ne 11, 3) := by decide +kernel
theorem dX7_oneStepOn_21 : decode cX7_oneStepOn 21 = .ok (.iload_n 2, 1) := by decide +kernel
theorem dX7_oneStepOn_22 : decode cX7_oneStepOn 22 = .ok (.aload_n 0, 1) := by decide +kernel
theorem dX7_oneStepOn_23 : decode cX7_oneStepOn 23 = .ok (.iload_n 3, 1) := by decide +kernel
theorem dX7_oneStepOn_24 : decode cX7_oneStepOn 24 = .ok (.invokevirtual 46, 3) := by decide +kernel
theorem dX7_oneStepOn_27 : decode cX7_oneStepOn 27 = .ok (.ior, 1) := by decide +kernel
theorem dX7_oneStepOn_28 : decode cX7_oneStepOn 28 = .ok (.istore_n 2, 1) := by decide +kernel
theorem dX7_oneStepOn_29 : decode cX7_oneStepOn 29 = .ok (.iinc 3 1, 3) := by decide +kernel
theorem dX7_oneStepOn_32 : decode cX7_oneStepOn 32 = .ok (.goto (-28), 3) := by decide +kernel
theorem dX7_oneStepOn_35 : decode cX7_oneStepOn 35 = .ok (.iload_n 2, 1) := by decide +kernel
theorem dX7_oneStepOn_36 : decode cX7_oneStepOn 36 = .ok (.ireturn, 1) := by decide +kernel
set_option maxHeartbeats 4000000 in
set_option maxRecDepth 100000 in
theorem c_X7_oneStepOn (l : Launch) (D : eD) (T : Nat → ClassId) (h_t h_t_near h_t_fans : Nat) (t_colours : Int64) (t_darks : Int32) (t_nodes : Int32) (t_near : Nat → Int32) (p1 : Int32) (post : Int32 → Prop) (h : F_X7_oneStepOn t_nodes t_near p1 post) : cI l D T yX7_oneStepOn cX7_oneStepOn 4 (some .int) 1 21 0 0 [.ref h_t, .int p1] [(h_t, .inr (6, [.ref h_t_near, .ref h_t_fans, .int t_nodes, .int t_darks, .long t_colours])), (h_t_near, aI T 6 t_near)] (fun r w1 => w1 = [(h_t, .inr (6, [.ref h_t_near, .ref h_t_fans, .int t_nodes, .int t_darks, .long t_colours])), (h_t_near, aI T 6 t_near)] ∧ post r ) := by
  refine xI_of (ty := .int) (by decide +kernel) (Nat.le_of_ble_eq_true rfl) rfl ?_
  intro G X hret
  change G 0 0 0 [(0, .ref h_t), (1, .int p1)] [] [(h_t, .inr (6, [.ref h_t_near, .ref h_t_fans, .int t_nodes, .int t_darks, .long t_colours])), (h_t_near, aI T 6 t_near)]
  unfold F_X7_oneStepOn at h
  have k4 : ∀ (n4 : Nat) (x1 : Int32) (x2 : Int32) (x3 : Int32), F_X7_oneStepOn_4 t_nodes t_near post n4 x1 x2 x3 → G 0 0 4 [(0, .ref h_t), (1, .int x1), (2, .int x2), (3, .int x3)] [] [(h_t, .inr (6, [.ref h_t_near, .ref h_t_fans, .int t_nodes, .int t_darks, .long t_colours])), (h_t_near, aI T 6 t_near)] := by
    intro n4
    induction n4 with
    | zero => intro x1 x2 x3 h; exact h.elim
    | succ n4 ih4 =>
      intro x1 x2 x3 h
      rw [F_X7_oneStepOn_4] at h
      have k29 : ∀ (x1 : Int32) (x2 : Int32) (x3 : Int32), F_X7_oneStepOn_29 t_nodes t_near post (F_X7_oneStepOn_4 t_nodes t_near post n4) x1 x2 x3 → G 0 0 29 [(0, .ref h_t), (1, .int x1), (2, .int x2), (3, .int x3)] [] [(h_t, .inr (6, [.ref h_t_near, .ref h_t_fans, .int t_nodes, .int t_darks, .long t_colours])), (h_t_near, aI T 6 t_near)] := by
        intro x1 x2 x3 h
        unfold F_X7_oneStepOn_29 at h
        refine x_iinc (v := (x3 + 1)) (lv' := [(3, .int (x3 + 1)), (0, .ref h_t), (1, .int x1), (2, .int x2)]) X dX7_oneStepOn_29 3 rfl rfl (by decide) rfl ?_
        refine x_goto (tgt := 4) X dX7_oneStepOn_32 (by decide) ?_
        exact x_sub X [1, 2, 3, 0] rfl (ih4 x1 x2 (x3 + 1) h)
      refine x_iload_n X dX7_oneStepOn_4 3 rfl ?_
      refine x_aload_n X dX7_oneStepOn_5 0 rfl ?_
      refine x_get X inGX7 2 (by decide) rfl tw_213 dX7_oneStepOn_6 rfl 0 rfl rfl ?_
      refine x_icmp_ge (tgt := 35) X dX7_oneStepOn_9 (by decide) (fun hc => ?_) (fun hc => ?_)
      · have h := h.1 hc
        refine x_iload_n X dX7_oneStepOn_35 2 rfl ?_
        exact hret _ _ _ _ dX7_oneStepOn_36 rfl ⟨rfl, h⟩
      · have h := h.2 hc
        refine x_iload_n X dX7_oneStepOn_12 1 rfl ?_
        refine x_iload_n X dX7_oneStepOn_13 3 rfl ?_
        refine x_ishr X dX7_oneStepOn_14 ?_
        refine x_iconst (v := 1) X dX7_oneStepOn_15 (by decide) ?_
        refine x_iand X dX7_oneStepOn_16 ?_
        refine x_iconst (v := 1) X dX7_oneStepOn_17 (by decide) ?_
        refine x_icmp_ne (tgt := 29) X dX7_oneStepOn_18 (by decide) (fun hc => ?_) (fun hc => ?_)
        · have h := h.1 hc
          exact x_sub X [0, 1, 2, 3] rfl (k29 x1 x2 x3 h)
        · have h := h.2 hc
          refine x_iload_n X dX7_oneStepOn_21 2 rfl ?_
          refine x_aload_n X dX7_oneStepOn_22 0 rfl ?_
          refine x_iload_n X dX7_oneStepOn_23 3 rfl ?_
          refine x_callVI (av := [.int x3]) (st := [.int x2]) (wr := []) X (c_X7_nearOf l D T h_t h_t_near h_t_fans t_colours t_darks t_nodes t_near x3 _ h) yk_X7_nearOf tw_393 dX7_oneStepOn_24 0 rfl rfl [0, 1] [] rfl rfl rfl rfl (by decide) rfl rfl (Nat.le_of_ble_eq_true rfl) (Nat.le_of_ble_eq_true rfl) (Nat.le_of_ble_eq_true rfl) (Nat.zero_le _) (Nat.zero_le _) (fun r24 w1 hw => ?_)
          obtain ⟨rfl, h⟩ := hw
          refine x_perm (ws2 := [(h_t, .inr (6, [.ref h_t_near, .ref h_t_fans, .int t_nodes, .int t_darks, .long t_colours])), (h_t_near, aI T 6 t_near)]) X [0, 1] rfl rfl ?_
          refine x_ior X dX7_oneStepOn_27 ?_
          refine x_istore_n (lv' := [(2, .int (x2 ||| r24)), (0, .ref h_t), (1, .int x1), (3, .int x3)]) X dX7_oneStepOn_28 (by decide) rfl ?_
          exact x_sub X [1, 2, 0, 3] rfl (k29 x1 (x2 ||| r24) x3 h)
  refine x_iload_n X dX7_oneStepOn_0 1 rfl ?_
  refine x_istore_n (lv' := [(2, .int p1), (0, .ref h_t), (1, .int p1)]) X dX7_oneStepOn_1 (by decide) rfl ?_
  refine x_iconst (v := 0) X dX7_oneStepOn_2 (by decide) ?_
  refine x_istore_n (lv' := [(3, .int (0 : Int32)), (2, .int p1), (0, .ref h_t), (1, .int p1)]) X dX7_oneStepOn_3 (by decide) rfl ?_
  obtain ⟨n4, h⟩ := h
  exact x_sub X [2, 3, 1, 0] rfl (k4 n4 p1 p1 (0 : Int32) h)
theorem dX7_pieces_0 : decode cX7_pieces 0 = .ok (.iconst 0, 1) := by decide +kernel
theorem dX7_pieces_1 : decode cX7_pieces 1 = .ok (.istore_n 1, 1) := by decide +kernel
theorem dX7_pieces_2 : decode cX7_pieces 2 = .ok (.iconst 0, 1) := by decide +kernel
theorem dX7_pieces_3 : decode cX7_pieces 3 = .ok (.istore_n 2, 1) := by decide +kernel
theorem dX7_pieces_4 : decode cX7_pieces 4 = .ok (.iconst 0, 1) := by decide +kernel
theorem dX7_pieces_5 : decode cX7_pieces 5 = .ok (.istore_n 3, 1) := by decide +kernel
theorem dX7_pieces_6 : decode cX7_pieces 6 = .ok (.iload_n 3, 1) := by decide +kernel
theorem dX7_pieces_7 : decode cX7_pieces 7 = .ok (.aload_n 0, 1) := by decide +kernel
theorem dX7_pieces_8 : decode cX7_pieces 8 = .ok (.getfield 25, 3) := by decide +kernel
theorem dX7_pieces_11 : decode cX7_pieces 11 = .ok (.if_icmp .ge 56, 3) := by decide +kernel
theorem dX7_pieces_14 : decode cX7_pieces 14 = .ok (.iload_n 2, 1) := by decide +kernel
theorem dX7_pieces_15 : decode cX7_pieces 15 = .ok (.iload_n 3, 1) := by decide +kernel
theorem dX7_pieces_16 : decode cX7_pieces 16 = .ok (.ishr, 1) := by decide +kernel
theorem dX7_pieces_17 : decode cX7_pieces 17 = .ok (.iconst 1, 1) := by decide +kernel
theorem dX7_pieces_18 : decode cX7_pieces 18 = .ok (.iand, 1) := by decide +kernel
theorem dX7_pieces_19 : decode cX7_pieces 19 = .ok (.ifCond .ne 42, 3) := by decide +kernel
theorem dX7_pieces_22 : decode cX7_pieces 22 = .ok (.iinc 1 1, 3) := by decide +kernel
theorem dX7_pieces_25 : decode cX7_pieces 25 = .ok (.iconst 1, 1) := by decide +kernel
theorem dX7_pieces_26 : decode cX7_pieces 26 = .ok (.iload_n 3, 1) := by decide +kernel
theorem dX7_pieces_27 : decode cX7_pieces 27 = .ok (.ishl, 1) := by decide +kernel
theorem dX7_pieces_28 : decode cX7_pieces 28 = .ok (.istore 4, 2) := by decide +kernel
theorem dX7_pieces_30 : decode cX7_pieces 30 = .ok (.iconst 1, 1) := by decide +kernel
theorem dX7_pieces_31 : decode cX7_pieces 31 = .ok (.istore 5, 2) := by decide +kernel
theorem dX7_pieces_33 : decode cX7_pieces 33 = .ok (.iload 5, 2) := by decide +kernel
theorem dX7_pieces_35 : decode cX7_pieces 35 = .ok (.aload_n 0, 1) := by decide +kernel
theorem dX7_pieces_36 : decode cX7_pieces 36 = .ok (.getfield 25, 3) := by decide +kernel
theorem dX7_pieces_39 : decode cX7_pieces 39 = .ok (.if_icmp .ge 17, 3) := by decide +kernel
theorem dX7_pieces_42 : decode cX7_pieces 42 = .ok (.aload_n 0, 1) := by decide +kernel
theorem dX7_pieces_43 : decode cX7_pieces 43 = .ok (.iload 4, 2) := by decide +kernel
theorem dX7_pieces_45 : decode cX7_pieces 45 = .ok (.invokevirtual 57, 3) := by decide +kernel
theorem dX7_pieces_48 : decode cX7_pieces 48 = .ok (.istore 4, 2) := by decide +kernel
theorem dX7_pieces_50 : decode cX7_pieces 50 = .ok (.iinc 5 1, 3) := by decide +kernel
theorem dX7_pieces_53 : decode cX7_pieces 53 = .ok (.goto (-20), 3) := by decide +kernel
theorem dX7_pieces_56 : decode cX7_pieces 56 = .ok (.iload_n 2, 1) := by decide +kernel
theorem dX7_pieces_57 : decode cX7_pieces 57 = .ok (.iload 4, 2) := by decide +kernel
theorem dX7_pieces_59 : decode cX7_pieces 59 = .ok (.ior, 1) := by decide +kernel
theorem dX7_pieces_60 : decode cX7_pieces 60 = .ok (.istore_n 2, 1) := by decide +kernel
theorem dX7_pieces_61 : decode cX7_pieces 61 = .ok (.iinc 3 1, 3) := by decide +kernel
theorem dX7_pieces_64 : decode cX7_pieces 64 = .ok (.goto (-58), 3) := by decide +kernel
theorem dX7_pieces_67 : decode cX7_pieces 67 = .ok (.iload_n 1, 1) := by decide +kernel
theorem dX7_pieces_68 : decode cX7_pieces 68 = .ok (.ireturn, 1) := by decide +kernel
set_option maxHeartbeats 4000000 in
set_option maxRecDepth 100000 in
theorem c_X7_pieces (l : Launch) (D : eD) (T : Nat → ClassId) (h_t h_t_near h_t_fans : Nat) (t_colours : Int64) (t_darks : Int32) (t_nodes : Int32) (t_near : Nat → Int32) (post : Int32 → Prop) (h : F_X7_pieces t_nodes t_near post) : cI l D T yX7_pieces cX7_pieces 6 (some .int) 2 44 0 0 [.ref h_t] [(h_t, .inr (6, [.ref h_t_near, .ref h_t_fans, .int t_nodes, .int t_darks, .long t_colours])), (h_t_near, aI T 6 t_near)] (fun r w1 => w1 = [(h_t, .inr (6, [.ref h_t_near, .ref h_t_fans, .int t_nodes, .int t_darks, .long t_colours])), (h_t_near, aI T 6 t_near)] ∧ post r ) := by
  refine xI_of (ty := .int) (by decide +kernel) (Nat.le_of_ble_eq_true rfl) rfl ?_
  intro G X hret
  change G 0 0 0 [(0, .ref h_t)] [] [(h_t, .inr (6, [.ref h_t_near, .ref h_t_fans, .int t_nodes, .int t_darks, .long t_colours])), (h_t_near, aI T 6 t_near)]
  unfold F_X7_pieces at h
  have k6 : ∀ (n6 : Nat) (x1 : Int32) (x2 : Int32) (x3 : Int32), F_X7_pieces_6 t_nodes t_near post n6 x1 x2 x3 → G 0 0 6 [(0, .ref h_t), (1, .int x1), (2, .int x2), (3, .int x3)] [] [(h_t, .inr (6, [.ref h_t_near, .ref h_t_fans, .int t_nodes, .int t_darks, .long t_colours])), (h_t_near, aI T 6 t_near)] := by
    intro n6
    induction n6 with
    | zero => intro x1 x2 x3 h; exact h.elim
    | succ n6 ih6 =>
      intro x1 x2 x3 h
      rw [F_X7_pieces_6] at h
      have k61 : ∀ (x1 : Int32) (x2 : Int32) (x3 : Int32), F_X7_pieces_61 t_nodes t_near post (F_X7_pieces_6 t_nodes t_near post n6) x1 x2 x3 → G 0 0 61 [(0, .ref h_t), (1, .int x1), (2, .int x2), (3, .int x3)] [] [(h_t, .inr (6, [.ref h_t_near, .ref h_t_fans, .int t_nodes, .int t_darks, .long t_colours])), (h_t_near, aI T 6 t_near)] := by
        intro x1 x2 x3 h
        unfold F_X7_pieces_61 at h
        refine x_iinc (v := (x3 + 1)) (lv' := [(3, .int (x3 + 1)), (0, .ref h_t), (1, .int x1), (2, .int x2)]) X dX7_pieces_61 3 rfl rfl (by decide) rfl ?_
        refine x_goto (tgt := 6) X dX7_pieces_64 (by decide) ?_
        exact x_sub X [1, 2, 3, 0] rfl (ih6 x1 x2 (x3 + 1) h)
      have k33 : ∀ (n33 : Nat) (x1 : Int32) (x2 : Int32) (x3 : Int32) (x4 : Int32) (x5 : Int32), F_X7_pieces_33 t_nodes t_near post (fun x1 x2 x3 => F_X7_pieces_61 t_nodes t_near post (F_X7_pieces_6 t_nodes t_near post n6) x1 x2 x3) n33 x1 x2 x3 x4 x5 → G 0 0 33 [(0, .ref h_t), (1, .int x1), (2, .int x2), (3, .int x3), (4, .int x4), (5, .int x5)] [] [(h_t, .inr (6, [.ref h_t_near, .ref h_t_fans, .int t_nodes, .int t_darks, .long t_colours])), (h_t_near, aI T 6 t_near)] := by
        intro n33
        induction n33 with
        | zero => intro x1 x2 x3 x4 x5 h; exact h.elim
        | succ n33 ih33 =>
          intro x1 x2 x3 x4 x5 h
          rw [F_X7_pieces_33] at h
          refine x_iload X dX7_pieces_33 5 rfl ?_
          refine x_aload_n X dX7_pieces_35 0 rfl ?_
          refine x_get X inGX7 2 (by decide) rfl tw_213 dX7_pieces_36 rfl 0 rfl rfl ?_
          refine x_icmp_ge (tgt := 56) X dX7_pieces_39 (by decide) (fun hc => ?_) (fun hc => ?_)
          · have h := h.1 hc
            refine x_iload_n X dX7_pieces_56 2 rfl ?_
            refine x_iload X dX7_pieces_57 4 rfl ?_
            refine x_ior X dX7_pieces_59 ?_
            refine x_istore_n (lv' := [(2, .int (x2 ||| x4)), (0, .ref h_t), (1, .int x1), (3, .int x3), (4, .int x4), (5, .int x5)]) X dX7_pieces_60 (by decide) rfl ?_
            exact x_sub X [1, 2, 0, 3] rfl (k61 x1 (x2 ||| x4) x3 h)
          · have h := h.2 hc
            refine x_aload_n X dX7_pieces_42 0 rfl ?_
            refine x_iload X dX7_pieces_43 4 rfl ?_
            refine x_callVI (av := [.int x4]) (st := []) (wr := []) X (c_X7_oneStepOn l D T h_t h_t_near h_t_fans t_colours t_darks t_nodes t_near x4 _ h) yk_X7_oneStepOn tw_549 dX7_pieces_45 0 rfl rfl [0, 1] [] rfl rfl rfl rfl (by decide) rfl rfl (Nat.le_of_ble_eq_true rfl) (Nat.le_of_ble_eq_true rfl) (Nat.le_of_ble_eq_true rfl) (Nat.zero_le _) (Nat.zero_le _) (fun r45 w1 hw => ?_)
            obtain ⟨rfl, h⟩ := hw
            refine x_perm (ws2 := [(h_t, .inr (6, [.ref h_t_near, .ref h_t_fans, .int t_nodes, .int t_darks, .long t_colours])), (h_t_near, aI T 6 t_near)]) X [0, 1] rfl rfl ?_
            refine x_istore (lv' := [(4, .int r45), (0, .ref h_t), (1, .int x1), (2, .int x2), (3, .int x3), (5, .int x5)]) X dX7_pieces_48 (by decide) rfl ?_
            refine x_iinc (v := (x5 + 1)) (lv' := [(5, .int (x5 + 1)), (4, .int r45), (0, .ref h_t), (1, .int x1), (2, .int x2), (3, .int x3)]) X dX7_pieces_50 5 rfl rfl (by decide) rfl ?_
            refine x_goto (tgt := 33) X dX7_pieces_53 (by decide) ?_
            exact x_sub X [2, 3, 4, 5, 1, 0] rfl (ih33 x1 x2 x3 r45 (x5 + 1) h)
      refine x_iload_n X dX7_pieces_6 3 rfl ?_
      refine x_aload_n X dX7_pieces_7 0 rfl ?_
      refine x_get X inGX7 2 (by decide) rfl tw_213 dX7_pieces_8 rfl 0 rfl rfl ?_
      refine x_icmp_ge (tgt := 67) X dX7_pieces_11 (by decide) (fun hc => ?_) (fun hc => ?_)
      · have h := h.1 hc
        refine x_iload_n X dX7_pieces_67 1 rfl ?_
        exact hret _ _ _ _ dX7_pieces_68 rfl ⟨rfl, h⟩
      · have h := h.2 hc
        refine x_iload_n X dX7_pieces_14 2 rfl ?_
        refine x_iload_n X dX7_pieces_15 3 rfl ?_
        refine x_ishr X dX7_pieces_16 ?_
        refine x_iconst (v := 1) X dX7_pieces_17 (by decide) ?_
        refine x_iand X dX7_pieces_18 ?_
        refine x_if_ne (tgt := 61) X dX7_pieces_19 (by decide) (fun hc => ?_) (fun hc => ?_)
        · have h := h.1 hc
          exact x_sub X [0, 1, 2, 3] rfl (k61 x1 x2 x3 h)
        · have h := h.2 hc
          refine x_iinc (v := (x1 + 1)) (lv' := [(1, .int (x1 + 1)), (0, .ref h_t), (2, .int x2), (3, .int x3)]) X dX7_pieces_22 1 rfl rfl (by decide) rfl ?_
          refine x_iconst (v := 1) X dX7_pieces_25 (by decide) ?_
          refine x_iload_n X dX7_pieces_26 3 rfl ?_
          refine x_ishl X dX7_pieces_27 ?_
          refine x_istore (lv' := [(4, .int ((1 : Int32) <<< (x3 &&& 31))), (1, .int (x1 + 1)), (0, .ref h_t), (2, .int x2), (3, .int x3)]) X dX7_pieces_28 (by decide) rfl ?_
          refine x_iconst (v := 1) X dX7_pieces_30 (by decide) ?_
          refine x_istore (lv' := [(5, .int (1 : Int32)), (4, .int ((1 : Int32) <<< (x3 &&& 31))), (1, .int (x1 + 1)), (0, .ref h_t), (2, .int x2), (3, .int x3)]) X dX7_pieces_31 (by decide) rfl ?_
          obtain ⟨n33, h⟩ := h
          exact x_sub X [3, 2, 4, 5, 1, 0] rfl (k33 n33 (x1 + 1) x2 x3 ((1 : Int32) <<< (x3 &&& 31)) (1 : Int32) h)
  refine x_iconst (v := 0) X dX7_pieces_0 (by decide) ?_
  refine x_istore_n (lv' := [(1, .int (0 : Int32)), (0, .ref h_t)]) X dX7_pieces_1 (by decide) rfl ?_
  refine x_iconst (v := 0) X dX7_pieces_2 (by decide) ?_
  refine x_istore_n (lv' := [(2, .int (0 : Int32)), (1, .int (0 : Int32)), (0, .ref h_t)]) X dX7_pieces_3 (by decide) rfl ?_
  refine x_iconst (v := 0) X dX7_pieces_4 (by decide) ?_
  refine x_istore_n (lv' := [(3, .int (0 : Int32)), (2, .int (0 : Int32)), (1, .int (0 : Int32)), (0, .ref h_t)]) X dX7_pieces_5 (by decide) rfl ?_
  obtain ⟨n6, h⟩ := h
  exact x_sub X [3, 2, 1, 0] rfl (k6 n6 (0 : Int32) (0 : Int32) (0 : Int32) h)
theorem dX7_width_0 : decode cX7_width 0 = .ok (.iconst 1, 1) := by decide +kernel
theorem dX7_width_1 : decode cX7_width 1 = .ok (.aload_n 0, 1) := by decide +kernel
theorem dX7_width_2 : decode cX7_width 2 = .ok (.getfield 25, 3) := by decide +kernel
theorem dX7_width_5 : decode cX7_width 5 = .ok (.ishl, 1) := by decide +kernel
theorem dX7_width_6 : decode cX7_width 6 = .ok (.iconst 1, 1) := by decide +kernel
theorem dX7_width_7 : decode cX7_width 7 = .ok (.isub, 1) := by decide +kernel
theorem dX7_width_8 : decode cX7_width 8 = .ok (.istore_n 1, 1) := by decide +kernel
theorem dX7_width_9 : decode cX7_width 9 = .ok (.iconst 0, 1) := by decide +kernel
theorem dX7_width_10 : decode cX7_width 10 = .ok (.istore_n 2, 1) := by decide +kernel
theorem dX7_width_11 : decode cX7_width 11 = .ok (.iconst 0, 1) := by decide +kernel
theorem dX7_width_12 : decode cX7_width 12 = .ok (.istore_n 3, 1) := by decide +kernel
theorem dX7_width_13 : decode cX7_width 13 = .ok (.iload_n 3, 1) := by decide +kernel
theorem dX7_width_14 : decode cX7_width 14 = .ok (.aload_n 0, 1) := by decide +kernel
theorem dX7_width_15 : decode cX7_width 15 = .ok (.getfield 25, 3) := by decide +kernel
theorem dX7_width_18 : decode cX7_width 18 = .ok (.if_icmp .ge 61, 3) := by decide +kernel
theorem dX7_width_21 : decode cX7_width 21 = .ok (.iconst 1, 1) := by decide +kernel
theorem dX7_width_22 : decode cX7_width 22 = .ok (.iload_n 3, 1) := by decide +kernel
theorem dX7_width_23 : decode cX7_width 23 = .ok (.ishl, 1) := by decide +kernel
theorem dX7_width_24 : decode cX7_width 24 = .ok (.istore 4, 2) := by decide +kernel
theorem dX7_width_26 : decode cX7_width 26 = .ok (.iconst 0, 1) := by decide +kernel
theorem dX7_width_27 : decode cX7_width 27 = .ok (.istore 5, 2) := by decide +kernel
theorem dX7_width_29 : decode cX7_width 29 = .ok (.iload 4, 2) := by decide +kernel
theorem dX7_width_31 : decode cX7_width 31 = .ok (.iload_n 1, 1) := by decide +kernel
theorem dX7_width_32 : decode cX7_width 32 = .ok (.if_icmp .eq 26, 3) := by decide +kernel
theorem dX7_width_35 : decode cX7_width 35 = .ok (.iload 5, 2) := by decide +kernel
theorem dX7_width_37 : decode cX7_width 37 = .ok (.aload_n 0, 1) := by decide +kernel
theorem dX7_width_38 : decode cX7_width 38 = .ok (.getfield 25, 3) := by decide +kernel
theorem dX7_width_41 : decode cX7_width 41 = .ok (.if_icmp .ge 17, 3) := by decide +kernel
theorem dX7_width_44 : decode cX7_width 44 = .ok (.aload_n 0, 1) := by decide +kernel
theorem dX7_width_45 : decode cX7_width 45 = .ok (.iload 4, 2) := by decide +kernel
theorem dX7_width_47 : decode cX7_width 47 = .ok (.invokevirtual 57, 3) := by decide +kernel
theorem dX7_width_50 : decode cX7_width 50 = .ok (.istore 4, 2) := by decide +kernel
theorem dX7_width_52 : decode cX7_width 52 = .ok (.iinc 5 1, 3) := by decide +kernel
theorem dX7_width_55 : decode cX7_width 55 = .ok (.goto (-26), 3) := by decide +kernel
theorem dX7_width_58 : decode cX7_width 58 = .ok (.iload 4, 2) := by decide +kernel
theorem dX7_width_60 : decode cX7_width 60 = .ok (.iload_n 1, 1) := by decide +kernel
theorem dX7_width_61 : decode cX7_width 61 = .ok (.if_icmp .eq 5, 3) := by decide +kernel
theorem dX7_width_64 : decode cX7_width 64 = .ok (.iconst (-1), 1) := by decide +kernel
theorem dX7_width_65 : decode cX7_width 65 = .ok (.ireturn, 1) := by decide +kernel
theorem dX7_width_66 : decode cX7_width 66 = .ok (.iload_n 2, 1) := by decide +kernel
theorem dX7_width_67 : decode cX7_width 67 = .ok (.iload 5, 2) := by decide +kernel
theorem dX7_width_69 : decode cX7_width 69 = .ok (.invokestatic 54, 3) := by decide +kernel
theorem dX7_width_72 : decode cX7_width 72 = .ok (.istore_n 2, 1) := by decide +kernel
theorem dX7_width_73 : decode cX7_width 73 = .ok (.iinc 3 1, 3) := by decide +kernel
theorem dX7_width_76 : decode cX7_width 76 = .ok (.goto (-63), 3) := by decide +kernel
theorem dX7_width_79 : decode cX7_width 79 = .ok (.iload_n 2, 1) := by decide +kernel
theorem dX7_width_80 : decode cX7_width 80 = .ok (.ireturn, 1) := by decide +kernel
set_option maxHeartbeats 4000000 in
set_option maxRecDepth 100000 in
theorem c_X7_width (l : Launch) (D : eD) (T : Nat → ClassId) (h_t h_t_near h_t_fans : Nat) (t_colours : Int64) (t_darks : Int32) (t_nodes : Int32) (t_near : Nat → Int32) (post : Int32 → Prop) (h : F_X7_width t_nodes t_near post) : cI l D T yX7_width cX7_width 6 (some .int) 2 50 0 0 [.ref h_t] [(h_t, .inr (6, [.ref h_t_near, .ref h_t_fans, .int t_nodes, .int t_darks, .long t_colours])), (h_t_near, aI T 6 t_near)] (fun r w1 => w1 = [(h_t, .inr (6, [.ref h_t_near, .ref h_t_fans, .int t_nodes, .int t_darks, .long t_colours])), (h_t_near, aI T 6 t_near)] ∧ post r ) := by
  refine xI_of (ty := .int) (by decide +kernel) (Nat.le_of_ble_eq_true rfl) rfl ?_
  intro G X hret
  change G 0 0 0 [(0, .ref h_t)] [] [(h_t, .inr (6, [.ref h_t_near, .ref h_t_fans, .int t_nodes, .int t_darks, .long t_colours])), (h_t_near, aI T 6 t_near)]
  unfold F_X7_width at h
  have k13 : ∀ (n13 : Nat) (x1 : Int32) (x2 : Int32) (x3 : Int32), F_X7_width_13 t_nodes t_near post n13 x1 x2 x3 → G 0 0 13 [(0, .ref h_t), (1, .int x1), (2, .int x2), (3, .int x3)] [] [(h_t, .inr (6, [.ref h_t_near, .ref h_t_fans, .int t_nodes, .int t_darks, .long t_colours])), (h_t_near, aI T 6 t_near)] := by
    intro n13
    induction n13 with
    | zero => intro x1 x2 x3 h; exact h.elim
    | succ n13 ih13 =>
      intro x1 x2 x3 h
      rw [F_X7_width_13] at h
      have k29 : ∀ (n29 : Nat) (x1 : Int32) (x2 : Int32) (x3 : Int32) (x4 : Int32) (x5 : Int32), F_X7_width_29 t_nodes t_near post (F_X7_width_13 t_nodes t_near post n13) n29 x1 x2 x3 x4 x5 → G 0 0 29 [(0, .ref h_t), (1, .int x1), (2, .int x2), (3, .int x3), (4, .int x4), (5, .int x5)] [] [(h_t, .inr (6, [.ref h_t_near, .ref h_t_fans, .int t_nodes, .int t_darks, .long t_colours])), (h_t_near, aI T 6 t_near)] := by
        intro n29
        induction n29 with
        | zero => intro x1 x2 x3 x4 x5 h; exact h.elim
        | succ n29 ih29 =>
          intro x1 x2 x3 x4 x5 h
          rw [F_X7_width_29] at h
          have k58 : ∀ (x1 : Int32) (x2 : Int32) (x3 : Int32) (x4 : Int32) (x5 : Int32), F_X7_width_58 t_nodes t_near post (F_X7_width_13 t_nodes t_near post n13) x1 x2 x3 x4 x5 → G 0 0 58 [(0, .ref h_t), (1, .int x1), (2, .int x2), (3, .int x3), (4, .int x4), (5, .int x5)] [] [(h_t, .inr (6, [.ref h_t_near, .ref h_t_fans, .int t_nodes, .int t_darks, .long t_colours])), (h_t_near, aI T 6 t_near)] := by
            intro x1 x2 x3 x4 x5 h
            unfold F_X7_width_58 at h
            refine x_iload X dX7_width_58 4 rfl ?_
            refine x_iload_n X dX7_width_60 1 rfl ?_
            refine x_icmp_eq (tgt := 66) X dX7_width_61 (by decide) (fun hc => ?_) (fun hc => ?_)
            · have h := h.1 hc
              refine x_iload_n X dX7_width_66 2 rfl ?_
              refine x_iload X dX7_width_67 5 rfl ?_
              refine x_mmax X tw_403 tw_404 tw_12 tw_405 (Nat.le_of_ble_eq_true rfl) (Nat.le_of_ble_eq_true rfl) (Nat.le_of_ble_eq_true rfl) (Nat.zero_le _) (Nat.zero_le _) dX7_width_69 ?_
              refine x_istore_n (lv' := [(2, .int (if x2 < x5 then x5 else x2)), (0, .ref h_t), (1, .int x1), (3, .int x3), (4, .int x4), (5, .int x5)]) X dX7_width_72 (by decide) rfl ?_
              refine x_iinc (v := (x3 + 1)) (lv' := [(3, .int (x3 + 1)), (2, .int (if x2 < x5 then x5 else x2)), (0, .ref h_t), (1, .int x1), (4, .int x4), (5, .int x5)]) X dX7_width_73 3 rfl rfl (by decide) rfl ?_
              refine x_goto (tgt := 13) X dX7_width_76 (by decide) ?_
              exact x_sub X [2, 3, 1, 0] rfl (ih13 x1 (if x2 < x5 then x5 else x2) (x3 + 1) h)
            · have h := h.2 hc
              refine x_iconst (v := -1) X dX7_width_64 (by decide) ?_
              exact hret _ _ _ _ dX7_width_65 rfl ⟨rfl, h⟩
          refine x_iload X dX7_width_29 4 rfl ?_
          refine x_iload_n X dX7_width_31 1 rfl ?_
          refine x_icmp_eq (tgt := 58) X dX7_width_32 (by decide) (fun hc => ?_) (fun hc => ?_)
          · have h := h.1 hc
            exact x_sub X [0, 1, 2, 3, 4, 5] rfl (k58 x1 x2 x3 x4 x5 h)
          · have h := h.2 hc
            refine x_iload X dX7_width_35 5 rfl ?_
            refine x_aload_n X dX7_width_37 0 rfl ?_
            refine x_get X inGX7 2 (by decide) rfl tw_213 dX7_width_38 rfl 0 rfl rfl ?_
            refine x_icmp_ge (tgt := 58) X dX7_width_41 (by decide) (fun hc => ?_) (fun hc => ?_)
            · have h := h.1 hc
              exact x_sub X [0, 1, 2, 3, 4, 5] rfl (k58 x1 x2 x3 x4 x5 h)
            · have h := h.2 hc
              refine x_aload_n X dX7_width_44 0 rfl ?_
              refine x_iload X dX7_width_45 4 rfl ?_
              refine x_callVI (av := [.int x4]) (st := []) (wr := []) X (c_X7_oneStepOn l D T h_t h_t_near h_t_fans t_colours t_darks t_nodes t_near x4 _ h) yk_X7_oneStepOn tw_549 dX7_width_47 0 rfl rfl [0, 1] [] rfl rfl rfl rfl (by decide) rfl rfl (Nat.le_of_ble_eq_true rfl) (Nat.le_of_ble_eq_true rfl) (Nat.le_of_ble_eq_true rfl) (Nat.zero_le _) (Nat.zero_le _) (fun r47 w1 hw => ?_)
              obtain ⟨rfl, h⟩ := hw
              refine x_perm (ws2 := [(h_t, .inr (6, [.ref h_t_near, .ref h_t_fans, .int t_nodes, .int t_darks, .long t_colours])), (h_t_near, aI T 6 t_near)]) X [0, 1] rfl rfl ?_
              refine x_istore (lv' := [(4, .int r47), (0, .ref h_t), (1, .int x1), (2, .int x2), (3, .int x3), (5, .int x5)]) X dX7_width_50 (by decide) rfl ?_
              refine x_iinc (v := (x5 + 1)) (lv' := [(5, .int (x5 + 1)), (4, .int r47), (0, .ref h_t), (1, .int x1), (2, .int x2), (3, .int x3)]) X dX7_width_52 5 rfl rfl (by decide) rfl ?_
              refine x_goto (tgt := 29) X dX7_width_55 (by decide) ?_
              exact x_sub X [2, 3, 4, 5, 1, 0] rfl (ih29 x1 x2 x3 r47 (x5 + 1) h)
      refine x_iload_n X dX7_width_13 3 rfl ?_
      refine x_aload_n X dX7_width_14 0 rfl ?_
      refine x_get X inGX7 2 (by decide) rfl tw_213 dX7_width_15 rfl 0 rfl rfl ?_
      refine x_icmp_ge (tgt := 79) X dX7_width_18 (by decide) (fun hc => ?_) (fun hc => ?_)
      · have h := h.1 hc
        refine x_iload_n X dX7_width_79 2 rfl ?_
        exact hret _ _ _ _ dX7_width_80 rfl ⟨rfl, h⟩
      · have h := h.2 hc
        refine x_iconst (v := 1) X dX7_width_21 (by decide) ?_
        refine x_iload_n X dX7_width_22 3 rfl ?_
        refine x_ishl X dX7_width_23 ?_
        refine x_istore (lv' := [(4, .int ((1 : Int32) <<< (x3 &&& 31))), (0, .ref h_t), (1, .int x1), (2, .int x2), (3, .int x3)]) X dX7_width_24 (by decide) rfl ?_
        refine x_iconst (v := 0) X dX7_width_26 (by decide) ?_
        refine x_istore (lv' := [(5, .int (0 : Int32)), (4, .int ((1 : Int32) <<< (x3 &&& 31))), (0, .ref h_t), (1, .int x1), (2, .int x2), (3, .int x3)]) X dX7_width_27 (by decide) rfl ?_
        obtain ⟨n29, h⟩ := h
        exact x_sub X [2, 3, 4, 5, 1, 0] rfl (k29 n29 x1 x2 x3 ((1 : Int32) <<< (x3 &&& 31)) (0 : Int32) h)
  refine x_iconst (v := 1) X dX7_width_0 (by decide) ?_
  refine x_aload_n X dX7_width_1 0 rfl ?_
  refine x_get X inGX7 2 (by decide) rfl tw_213 dX7_width_2 rfl 0 rfl rfl ?_
  refine x_ishl X dX7_width_5 ?_
  refine x_iconst (v := 1) X dX7_width_6 (by decide) ?_
  refine x_isub X dX7_width_7 ?_
  refine x_istore_n (lv' := [(1, .int (((1 : Int32) <<< (t_nodes &&& 31)) - (1 : Int32))), (0, .ref h_t)]) X dX7_width_8 (by decide) rfl ?_
  refine x_iconst (v := 0) X dX7_width_9 (by decide) ?_
  refine x_istore_n (lv' := [(2, .int (0 : Int32)), (1, .int (((1 : Int32) <<< (t_nodes &&& 31)) - (1 : Int32))), (0, .ref h_t)]) X dX7_width_10 (by decide) rfl ?_
  refine x_iconst (v := 0) X dX7_width_11 (by decide) ?_
  refine x_istore_n (lv' := [(3, .int (0 : Int32)), (2, .int (0 : Int32)), (1, .int (((1 : Int32) <<< (t_nodes &&& 31)) - (1 : Int32))), (0, .ref h_t)]) X dX7_width_12 (by decide) rfl ?_
  obtain ⟨n13, h⟩ := h
  exact x_sub X [3, 2, 1, 0] rfl (k13 n13 (((1 : Int32) <<< (t_nodes &&& 31)) - (1 : Int32)) (0 : Int32) (0 : Int32) h)
theorem dX7_shortestCircle_0 : decode cX7_shortestCircle 0 = .ok (.iconst 0, 1) := by decide +kernel
theorem dX7_shortestCircle_1 : decode cX7_shortestCircle 1 = .ok (.aload_n 0, 1) := by decide +kernel
theorem dX7_shortestCircle_2 : decode cX7_shortestCircle 2 = .ok (.invokevirtual 64, 3) := by decide +kernel
theorem dX7_shortestCircle_5 : decode cX7_shortestCircle 5 = .ok (.invokestatic 68, 3) := by decide +kernel
theorem dX7_shortestCircle_8 : decode cX7_shortestCircle 8 = .ok (.invokestatic 54, 3) := by decide +kernel
theorem dX7_shortestCircle_11 : decode cX7_shortestCircle 11 = .ok (.ireturn, 1) := by decide +kernel
set_option maxHeartbeats 4000000 in
set_option maxRecDepth 100000 in
theorem c_X7_shortestCircle (l : Launch) (D : eD) (T : Nat → ClassId) (h_t h_t_near h_t_fans : Nat) (t_colours : Int64) (t_darks : Int32) (t_nodes : Int32) (t_near : Nat → Int32) (post : Int32 → Prop) (h : F_X7_shortestCircle t_nodes t_near post) : cI l D T yX7_shortestCircle cX7_shortestCircle 1 (some .int) 23 569 0 0 [.ref h_t] [(h_t, .inr (6, [.ref h_t_near, .ref h_t_fans, .int t_nodes, .int t_darks, .long t_colours])), (h_t_near, aI T 6 t_near)] (fun r w1 => w1 = [(h_t, .inr (6, [.ref h_t_near, .ref h_t_fans, .int t_nodes, .int t_darks, .long t_colours])), (h_t_near, aI T 6 t_near)] ∧ post r ) := by
  refine xI_of (ty := .int) (by decide +kernel) (Nat.le_of_ble_eq_true rfl) rfl ?_
  intro G X hret
  change G 0 0 0 [(0, .ref h_t)] [] [(h_t, .inr (6, [.ref h_t_near, .ref h_t_fans, .int t_nodes, .int t_darks, .long t_colours])), (h_t_near, aI T 6 t_near)]
  unfold F_X7_shortestCircle at h
  refine x_iconst (v := 0) X dX7_shortestCircle_0 (by decide) ?_
  refine x_aload_n X dX7_shortestCircle_1 0 rfl ?_
  refine x_callVI (av := []) (st := [.int (0 : Int32)]) (wr := []) X (c_X7_circles l D T h_t h_t_near h_t_fans t_colours t_darks t_nodes t_near _ h) yk_X7_circles tw_958 dX7_shortestCircle_2 0 rfl rfl [0, 1] [] rfl rfl rfl rfl (by decide) rfl rfl (Nat.le_of_ble_eq_true rfl) (Nat.le_of_ble_eq_true rfl) (Nat.le_of_ble_eq_true rfl) (Nat.zero_le _) (Nat.zero_le _) (fun r2 w1 hw => ?_)
  obtain ⟨rfl, h⟩ := hw
  refine x_perm (ws2 := [(h_t, .inr (6, [.ref h_t_near, .ref h_t_fans, .int t_nodes, .int t_darks, .long t_colours])), (h_t_near, aI T 6 t_near)]) X [0, 1] rfl rfl ?_
  refine x_callSI (av := [.int r2]) (st := [.int (0 : Int32)]) (wr := [(h_t, .inr (6, [.ref h_t_near, .ref h_t_fans, .int t_nodes, .int t_darks, .long t_colours])), (h_t_near, aI T 6 t_near)]) X (c_X7_lowest l D T  r2 _ h) yk_X7_lowest tw_959 dX7_shortestCircle_5 [] [0, 1] rfl rfl rfl rfl (by decide) rfl rfl (Nat.le_of_ble_eq_true rfl) (Nat.le_of_ble_eq_true rfl) (Nat.le_of_ble_eq_true rfl) (Nat.zero_le _) (Nat.zero_le _) (fun r5 w1 hw => ?_)
  obtain ⟨rfl, h⟩ := hw
  refine x_perm (ws2 := [(h_t, .inr (6, [.ref h_t_near, .ref h_t_fans, .int t_nodes, .int t_darks, .long t_colours])), (h_t_near, aI T 6 t_near)]) X [0, 1] rfl rfl ?_
  refine x_mmax X tw_403 tw_404 tw_12 tw_405 (Nat.le_of_ble_eq_true rfl) (Nat.le_of_ble_eq_true rfl) (Nat.le_of_ble_eq_true rfl) (Nat.zero_le _) (Nat.zero_le _) dX7_shortestCircle_8 ?_
  exact hret _ _ _ _ dX7_shortestCircle_11 rfl ⟨rfl, h⟩
