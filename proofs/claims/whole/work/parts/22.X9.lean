/-! OrderlyNets$Texts: decode rows (printed), and each method kept by its F -/
theorem dX9_hasEnded_0 : decode cX9_hasEnded 0 = .ok (.aload_n 0, 1) := by decide +kernel
theorem dX9_hasEnded_1 : decode cX9_hasEnded 1 = .ok (.invokevirtual 38, 3) := by decide +kernel
theorem dX9_hasEnded_4 : decode cX9_hasEnded 4 = .ok (.ifCond .ne 5, 3) := by decide +kernel
theorem dX9_hasEnded_7 : decode cX9_hasEnded 7 = .ok (.iconst 1, 1) := by decide +kernel
theorem dX9_hasEnded_8 : decode cX9_hasEnded 8 = .ok (.ireturn, 1) := by decide +kernel
theorem dX9_hasEnded_9 : decode cX9_hasEnded 9 = .ok (.aload_n 0, 1) := by decide +kernel
theorem dX9_hasEnded_10 : decode cX9_hasEnded 10 = .ok (.bipush 59, 2) := by decide +kernel
theorem dX9_hasEnded_12 : decode cX9_hasEnded 12 = .ok (.invokevirtual 42, 3) := by decide +kernel
theorem dX9_hasEnded_15 : decode cX9_hasEnded 15 = .ok (.ifCond .eq 8, 3) := by decide +kernel
theorem dX9_hasEnded_18 : decode cX9_hasEnded 18 = .ok (.aload_n 0, 1) := by decide +kernel
theorem dX9_hasEnded_19 : decode cX9_hasEnded 19 = .ok (.invokevirtual 38, 3) := by decide +kernel
theorem dX9_hasEnded_22 : decode cX9_hasEnded 22 = .ok (.pop, 1) := by decide +kernel
theorem dX9_hasEnded_23 : decode cX9_hasEnded 23 = .ok (.iconst 0, 1) := by decide +kernel
theorem dX9_hasEnded_24 : decode cX9_hasEnded 24 = .ok (.ireturn, 1) := by decide +kernel
set_option maxHeartbeats 4000000 in
set_option maxRecDepth 100000 in
theorem c_X9_hasEnded (l : Launch) (D : va_G) (T : Nat → ClassId) (h_p0 h_p0_bytes : Nat) (p0_begun : Int32) (p0_length : Int32) (p0_position : Int32) (p0_wrong : Int32) (p0_bytes : Nat → Int32) (post : Int32 → Int32 → Int32 → Prop) (h : F_X9_hasEnded p0_length p0_bytes p0_begun p0_position post) : cI l D T yX9_hasEnded cX9_hasEnded 1 (some .boolean) 3 62 0 0 [.ref h_p0] [(h_p0, .inr (7, [.ref h_p0_bytes, .int p0_length, .int p0_position, .int p0_begun, .int p0_wrong])), (h_p0_bytes, aI T 400 p0_bytes)] (fun r w1 => ∃ (p0_begun1 : Int32) (p0_position1 : Int32), w1 = [(h_p0, .inr (7, [.ref h_p0_bytes, .int p0_length, .int p0_position1, .int p0_begun1, .int p0_wrong])), (h_p0_bytes, aI T 400 p0_bytes)] ∧ post r p0_begun1 p0_position1) := by
  refine xI_of (ty := .boolean) (by decide +kernel) (Nat.le_of_ble_eq_true rfl) rfl ?_
  intro G X hret
  change G 0 0 0 [(0, .ref h_p0)] [] [(h_p0, .inr (7, [.ref h_p0_bytes, .int p0_length, .int p0_position, .int p0_begun, .int p0_wrong])), (h_p0_bytes, aI T 400 p0_bytes)]
  unfold F_X9_hasEnded at h
  have k23 : ∀ (p0_begun : Int32) (p0_position : Int32), F_X9_hasEnded_23 p0_length p0_bytes post p0_begun p0_position → G 0 0 23 [] [] [(h_p0, .inr (7, [.ref h_p0_bytes, .int p0_length, .int p0_position, .int p0_begun, .int p0_wrong])), (h_p0_bytes, aI T 400 p0_bytes)] := by
    intro p0_begun p0_position h
    unfold F_X9_hasEnded_23 at h
    refine x_iconst (v := 0) X dX9_hasEnded_23 (by decide) ?_
    obtain ⟨hz, h⟩ := h
    exact hret _ _ _ _ dX9_hasEnded_24 (e_nz hz) ⟨p0_begun, p0_position, rfl, h⟩
  refine x_aload_n X dX9_hasEnded_0 0 rfl ?_
  refine x_callVI (av := []) (st := []) (wr := []) X (c_X8_goesOn l D T h_p0 h_p0_bytes p0_begun p0_length p0_position p0_wrong p0_bytes _ h) yk_X8_goesOn tw_696 dX9_hasEnded_1 0 rfl rfl [0, 1] [] rfl rfl rfl rfl (by decide) rfl rfl (Nat.le_of_ble_eq_true rfl) (Nat.le_of_ble_eq_true rfl) (Nat.le_of_ble_eq_true rfl) (Nat.zero_le _) (Nat.zero_le _) (fun r1 w1 hw => ?_)
  obtain ⟨p0_begun_1, p0_position_1, rfl, h⟩ := hw
  refine x_perm (ws2 := [(h_p0, .inr (7, [.ref h_p0_bytes, .int p0_length, .int p0_position_1, .int p0_begun_1, .int p0_wrong])), (h_p0_bytes, aI T 400 p0_bytes)]) X [0, 1] rfl rfl ?_
  refine x_if_ne (tgt := 9) X dX9_hasEnded_4 (by decide) (fun hc => ?_) (fun hc => ?_)
  · have h := h.1 hc
    refine x_aload_n X dX9_hasEnded_9 0 rfl ?_
    refine x_bipush (v := 59) X dX9_hasEnded_10 (by decide) ?_
    refine x_callVI (av := [.int (59 : Int32)]) (st := []) (wr := []) X (c_X8_takesSign l D T h_p0 h_p0_bytes p0_begun_1 p0_length p0_position_1 p0_wrong p0_bytes (59 : Int32) _ h) yk_X8_takesSign tw_700 dX9_hasEnded_12 0 rfl rfl [0, 1] [] rfl rfl rfl rfl (by decide) rfl rfl (Nat.le_of_ble_eq_true rfl) (Nat.le_of_ble_eq_true rfl) (Nat.le_of_ble_eq_true rfl) (Nat.zero_le _) (Nat.zero_le _) (fun r12 w1 hw => ?_)
    obtain ⟨p0_begun_12, p0_position_12, rfl, h⟩ := hw
    refine x_perm (ws2 := [(h_p0, .inr (7, [.ref h_p0_bytes, .int p0_length, .int p0_position_12, .int p0_begun_12, .int p0_wrong])), (h_p0_bytes, aI T 400 p0_bytes)]) X [0, 1] rfl rfl ?_
    refine x_if_eq (tgt := 23) X dX9_hasEnded_15 (by decide) (fun hc => ?_) (fun hc => ?_)
    · have h := h.1 hc
      exact x_sub X [] rfl (k23 p0_begun_12 p0_position_12 h)
    · have h := h.2 hc
      refine x_aload_n X dX9_hasEnded_18 0 rfl ?_
      refine x_callVI (av := []) (st := []) (wr := []) X (c_X8_goesOn l D T h_p0 h_p0_bytes p0_begun_12 p0_length p0_position_12 p0_wrong p0_bytes _ h) yk_X8_goesOn tw_696 dX9_hasEnded_19 0 rfl rfl [0, 1] [] rfl rfl rfl rfl (by decide) rfl rfl (Nat.le_of_ble_eq_true rfl) (Nat.le_of_ble_eq_true rfl) (Nat.le_of_ble_eq_true rfl) (Nat.zero_le _) (Nat.zero_le _) (fun r19 w1 hw => ?_)
      obtain ⟨p0_begun_19, p0_position_19, rfl, h⟩ := hw
      refine x_perm (ws2 := [(h_p0, .inr (7, [.ref h_p0_bytes, .int p0_length, .int p0_position_19, .int p0_begun_19, .int p0_wrong])), (h_p0_bytes, aI T 400 p0_bytes)]) X [0, 1] rfl rfl ?_
      refine x_pop X dX9_hasEnded_22 rfl ?_
      exact x_sub X [] rfl (k23 p0_begun_19 p0_position_19 h)
  · have h := h.2 hc
    refine x_iconst (v := 1) X dX9_hasEnded_7 (by decide) ?_
    exact hret _ _ _ _ dX9_hasEnded_8 rfl ⟨p0_begun_1, p0_position_1, rfl, h⟩
theorem dX9_readEdges_0 : decode cX9_readEdges 0 = .ok (.iload_n 2, 1) := by decide +kernel
theorem dX9_readEdges_1 : decode cX9_readEdges 1 = .ok (.istore_n 3, 1) := by decide +kernel
theorem dX9_readEdges_2 : decode cX9_readEdges 2 = .ok (.iconst 0, 1) := by decide +kernel
theorem dX9_readEdges_3 : decode cX9_readEdges 3 = .ok (.istore 4, 2) := by decide +kernel
theorem dX9_readEdges_5 : decode cX9_readEdges 5 = .ok (.iload 4, 2) := by decide +kernel
theorem dX9_readEdges_7 : decode cX9_readEdges 7 = .ok (.bipush 15, 2) := by decide +kernel
theorem dX9_readEdges_9 : decode cX9_readEdges 9 = .ok (.if_icmp .gt 86, 3) := by decide +kernel
theorem dX9_readEdges_12 : decode cX9_readEdges 12 = .ok (.aload_n 0, 1) := by decide +kernel
theorem dX9_readEdges_13 : decode cX9_readEdges 13 = .ok (.iconst 0, 1) := by decide +kernel
theorem dX9_readEdges_14 : decode cX9_readEdges 14 = .ok (.iload_n 1, 1) := by decide +kernel
theorem dX9_readEdges_15 : decode cX9_readEdges 15 = .ok (.iconst 1, 1) := by decide +kernel
theorem dX9_readEdges_16 : decode cX9_readEdges 16 = .ok (.isub, 1) := by decide +kernel
theorem dX9_readEdges_17 : decode cX9_readEdges 17 = .ok (.invokevirtual 22, 3) := by decide +kernel
theorem dX9_readEdges_20 : decode cX9_readEdges 20 = .ok (.istore 5, 2) := by decide +kernel
theorem dX9_readEdges_22 : decode cX9_readEdges 22 = .ok (.iload 5, 2) := by decide +kernel
theorem dX9_readEdges_24 : decode cX9_readEdges 24 = .ok (.iconst (-1), 1) := by decide +kernel
theorem dX9_readEdges_25 : decode cX9_readEdges 25 = .ok (.if_icmp .ne 5, 3) := by decide +kernel
theorem dX9_readEdges_28 : decode cX9_readEdges 28 = .ok (.iconst (-1), 1) := by decide +kernel
theorem dX9_readEdges_29 : decode cX9_readEdges 29 = .ok (.ireturn, 1) := by decide +kernel
theorem dX9_readEdges_30 : decode cX9_readEdges 30 = .ok (.aload_n 0, 1) := by decide +kernel
theorem dX9_readEdges_31 : decode cX9_readEdges 31 = .ok (.iconst 0, 1) := by decide +kernel
theorem dX9_readEdges_32 : decode cX9_readEdges 32 = .ok (.iload_n 1, 1) := by decide +kernel
theorem dX9_readEdges_33 : decode cX9_readEdges 33 = .ok (.iconst 1, 1) := by decide +kernel
theorem dX9_readEdges_34 : decode cX9_readEdges 34 = .ok (.isub, 1) := by decide +kernel
theorem dX9_readEdges_35 : decode cX9_readEdges 35 = .ok (.invokevirtual 22, 3) := by decide +kernel
theorem dX9_readEdges_38 : decode cX9_readEdges 38 = .ok (.istore 6, 2) := by decide +kernel
theorem dX9_readEdges_40 : decode cX9_readEdges 40 = .ok (.iload 6, 2) := by decide +kernel
theorem dX9_readEdges_42 : decode cX9_readEdges 42 = .ok (.iconst (-1), 1) := by decide +kernel
theorem dX9_readEdges_43 : decode cX9_readEdges 43 = .ok (.if_icmp .eq 22, 3) := by decide +kernel
theorem dX9_readEdges_46 : decode cX9_readEdges 46 = .ok (.iload 5, 2) := by decide +kernel
theorem dX9_readEdges_48 : decode cX9_readEdges 48 = .ok (.iload 6, 2) := by decide +kernel
theorem dX9_readEdges_50 : decode cX9_readEdges 50 = .ok (.if_icmp .eq 15, 3) := by decide +kernel
theorem dX9_readEdges_53 : decode cX9_readEdges 53 = .ok (.iload_n 1, 1) := by decide +kernel
theorem dX9_readEdges_54 : decode cX9_readEdges 54 = .ok (.iload_n 3, 1) := by decide +kernel
theorem dX9_readEdges_55 : decode cX9_readEdges 55 = .ok (.iload 5, 2) := by decide +kernel
theorem dX9_readEdges_57 : decode cX9_readEdges 57 = .ok (.iload 6, 2) := by decide +kernel
theorem dX9_readEdges_59 : decode cX9_readEdges 59 = .ok (.invokestatic 127, 3) := by decide +kernel
theorem dX9_readEdges_62 : decode cX9_readEdges 62 = .ok (.ifCond .eq 5, 3) := by decide +kernel
theorem dX9_readEdges_65 : decode cX9_readEdges 65 = .ok (.iconst (-1), 1) := by decide +kernel
theorem dX9_readEdges_66 : decode cX9_readEdges 66 = .ok (.ireturn, 1) := by decide +kernel
theorem dX9_readEdges_67 : decode cX9_readEdges 67 = .ok (.iload_n 3, 1) := by decide +kernel
theorem dX9_readEdges_68 : decode cX9_readEdges 68 = .ok (.iload_n 1, 1) := by decide +kernel
theorem dX9_readEdges_69 : decode cX9_readEdges 69 = .ok (.iload 5, 2) := by decide +kernel
theorem dX9_readEdges_71 : decode cX9_readEdges 71 = .ok (.iload 6, 2) := by decide +kernel
theorem dX9_readEdges_73 : decode cX9_readEdges 73 = .ok (.invokestatic 133, 3) := by decide +kernel
theorem dX9_readEdges_76 : decode cX9_readEdges 76 = .ok (.ior, 1) := by decide +kernel
theorem dX9_readEdges_77 : decode cX9_readEdges 77 = .ok (.istore_n 3, 1) := by decide +kernel
theorem dX9_readEdges_78 : decode cX9_readEdges 78 = .ok (.aload_n 0, 1) := by decide +kernel
theorem dX9_readEdges_79 : decode cX9_readEdges 79 = .ok (.bipush 44, 2) := by decide +kernel
theorem dX9_readEdges_81 : decode cX9_readEdges 81 = .ok (.invokevirtual 42, 3) := by decide +kernel
theorem dX9_readEdges_84 : decode cX9_readEdges 84 = .ok (.ifCond .ne 5, 3) := by decide +kernel
theorem dX9_readEdges_87 : decode cX9_readEdges 87 = .ok (.iload_n 3, 1) := by decide +kernel
theorem dX9_readEdges_88 : decode cX9_readEdges 88 = .ok (.ireturn, 1) := by decide +kernel
theorem dX9_readEdges_89 : decode cX9_readEdges 89 = .ok (.iinc 4 1, 3) := by decide +kernel
theorem dX9_readEdges_92 : decode cX9_readEdges 92 = .ok (.goto (-87), 3) := by decide +kernel
theorem dX9_readEdges_95 : decode cX9_readEdges 95 = .ok (.iconst (-1), 1) := by decide +kernel
theorem dX9_readEdges_96 : decode cX9_readEdges 96 = .ok (.ireturn, 1) := by decide +kernel
set_option maxHeartbeats 4000000 in
set_option maxRecDepth 100000 in
theorem c_X9_readEdges (l : Launch) (D : va_G) (T : Nat → ClassId) (h_p0 h_p0_bytes : Nat) (p0_begun : Int32) (p0_length : Int32) (p0_position : Int32) (p0_wrong : Int32) (p0_bytes : Nat → Int32) (p1 : Int32) (p2 : Int32) (post : Int32 → Int32 → Int32 → Prop) (h : F_X9_readEdges p0_length p0_bytes p0_begun p0_position p1 p2 post) : cI l D T yX9_readEdges cX9_readEdges 7 (some .int) 3 95 0 0 [.ref h_p0, .int p1, .int p2] [(h_p0, .inr (7, [.ref h_p0_bytes, .int p0_length, .int p0_position, .int p0_begun, .int p0_wrong])), (h_p0_bytes, aI T 400 p0_bytes)] (fun r w1 => ∃ (p0_begun1 : Int32) (p0_position1 : Int32), w1 = [(h_p0, .inr (7, [.ref h_p0_bytes, .int p0_length, .int p0_position1, .int p0_begun1, .int p0_wrong])), (h_p0_bytes, aI T 400 p0_bytes)] ∧ post r p0_begun1 p0_position1) := by
  refine xI_of (ty := .int) (by decide +kernel) (Nat.le_of_ble_eq_true rfl) rfl ?_
  intro G X hret
  change G 0 0 0 [(0, .ref h_p0), (1, .int p1), (2, .int p2)] [] [(h_p0, .inr (7, [.ref h_p0_bytes, .int p0_length, .int p0_position, .int p0_begun, .int p0_wrong])), (h_p0_bytes, aI T 400 p0_bytes)]
  unfold F_X9_readEdges at h
  have k5 : ∀ (n5 : Nat) (x1 : Int32) (x3 : Int32) (x4 : Int32) (p0_begun : Int32) (p0_position : Int32), F_X9_readEdges_5 p0_length p0_bytes post n5 x1 x3 x4 p0_begun p0_position → G 0 0 5 [(0, .ref h_p0), (1, .int x1), (3, .int x3), (4, .int x4)] [] [(h_p0, .inr (7, [.ref h_p0_bytes, .int p0_length, .int p0_position, .int p0_begun, .int p0_wrong])), (h_p0_bytes, aI T 400 p0_bytes)] := by
    intro n5
    induction n5 with
    | zero => intro x1 x3 x4 p0_begun p0_position h; exact h.elim
    | succ n5 ih5 =>
      intro x1 x3 x4 p0_begun p0_position h
      rw [F_X9_readEdges_5] at h
      have k65 : ∀ (p0_begun : Int32) (p0_position : Int32), F_X9_readEdges_65 p0_length p0_bytes post p0_begun p0_position → G 0 0 65 [] [] [(h_p0, .inr (7, [.ref h_p0_bytes, .int p0_length, .int p0_position, .int p0_begun, .int p0_wrong])), (h_p0_bytes, aI T 400 p0_bytes)] := by
        intro p0_begun p0_position h
        unfold F_X9_readEdges_65 at h
        refine x_iconst (v := -1) X dX9_readEdges_65 (by decide) ?_
        exact hret _ _ _ _ dX9_readEdges_66 rfl ⟨p0_begun, p0_position, rfl, h⟩
      refine x_iload X dX9_readEdges_5 3 rfl ?_
      refine x_bipush (v := 15) X dX9_readEdges_7 (by decide) ?_
      refine x_icmp_gt (tgt := 95) X dX9_readEdges_9 (by decide) (fun hc => ?_) (fun hc => ?_)
      · have h := h.1 hc
        refine x_iconst (v := -1) X dX9_readEdges_95 (by decide) ?_
        exact hret _ _ _ _ dX9_readEdges_96 rfl ⟨p0_begun, p0_position, rfl, h⟩
      · have h := h.2 hc
        refine x_aload_n X dX9_readEdges_12 0 rfl ?_
        refine x_iconst (v := 0) X dX9_readEdges_13 (by decide) ?_
        refine x_iload_n X dX9_readEdges_14 1 rfl ?_
        refine x_iconst (v := 1) X dX9_readEdges_15 (by decide) ?_
        refine x_isub X dX9_readEdges_16 ?_
        refine x_callVI (av := [.int (0 : Int32), .int (x1 - (1 : Int32))]) (st := []) (wr := []) X (c_X8_takeNumber l D T h_p0 h_p0_bytes p0_begun p0_length p0_position p0_wrong p0_bytes (0 : Int32) (x1 - (1 : Int32)) _ h) yk_X8_takeNumber tw_687 dX9_readEdges_17 0 rfl rfl [0, 1] [] rfl rfl rfl rfl (by decide) rfl rfl (Nat.le_of_ble_eq_true rfl) (Nat.le_of_ble_eq_true rfl) (Nat.le_of_ble_eq_true rfl) (Nat.zero_le _) (Nat.zero_le _) (fun r17 w1 hw => ?_)
        obtain ⟨p0_begun_17, p0_position_17, rfl, h⟩ := hw
        refine x_perm (ws2 := [(h_p0, .inr (7, [.ref h_p0_bytes, .int p0_length, .int p0_position_17, .int p0_begun_17, .int p0_wrong])), (h_p0_bytes, aI T 400 p0_bytes)]) X [0, 1] rfl rfl ?_
        refine x_istore (lv' := [(5, .int r17), (0, .ref h_p0), (1, .int x1), (3, .int x3), (4, .int x4)]) X dX9_readEdges_20 (by decide) rfl ?_
        refine x_iload X dX9_readEdges_22 0 rfl ?_
        refine x_iconst (v := -1) X dX9_readEdges_24 (by decide) ?_
        refine x_icmp_ne (tgt := 30) X dX9_readEdges_25 (by decide) (fun hc => ?_) (fun hc => ?_)
        · have h := h.1 hc
          refine x_aload_n X dX9_readEdges_30 1 rfl ?_
          refine x_iconst (v := 0) X dX9_readEdges_31 (by decide) ?_
          refine x_iload_n X dX9_readEdges_32 2 rfl ?_
          refine x_iconst (v := 1) X dX9_readEdges_33 (by decide) ?_
          refine x_isub X dX9_readEdges_34 ?_
          refine x_callVI (av := [.int (0 : Int32), .int (x1 - (1 : Int32))]) (st := []) (wr := []) X (c_X8_takeNumber l D T h_p0 h_p0_bytes p0_begun_17 p0_length p0_position_17 p0_wrong p0_bytes (0 : Int32) (x1 - (1 : Int32)) _ h) yk_X8_takeNumber tw_687 dX9_readEdges_35 0 rfl rfl [0, 1] [] rfl rfl rfl rfl (by decide) rfl rfl (Nat.le_of_ble_eq_true rfl) (Nat.le_of_ble_eq_true rfl) (Nat.le_of_ble_eq_true rfl) (Nat.zero_le _) (Nat.zero_le _) (fun r35 w1 hw => ?_)
          obtain ⟨p0_begun_35, p0_position_35, rfl, h⟩ := hw
          refine x_perm (ws2 := [(h_p0, .inr (7, [.ref h_p0_bytes, .int p0_length, .int p0_position_35, .int p0_begun_35, .int p0_wrong])), (h_p0_bytes, aI T 400 p0_bytes)]) X [0, 1] rfl rfl ?_
          refine x_istore (lv' := [(6, .int r35), (5, .int r17), (0, .ref h_p0), (1, .int x1), (3, .int x3), (4, .int x4)]) X dX9_readEdges_38 (by decide) rfl ?_
          refine x_iload X dX9_readEdges_40 0 rfl ?_
          refine x_iconst (v := -1) X dX9_readEdges_42 (by decide) ?_
          refine x_icmp_eq (tgt := 65) X dX9_readEdges_43 (by decide) (fun hc => ?_) (fun hc => ?_)
          · have h := h.1 hc
            exact x_sub X [] rfl (k65 p0_begun_35 p0_position_35 h)
          · have h := h.2 hc
            refine x_iload X dX9_readEdges_46 1 rfl ?_
            refine x_iload X dX9_readEdges_48 0 rfl ?_
            refine x_icmp_eq (tgt := 65) X dX9_readEdges_50 (by decide) (fun hc => ?_) (fun hc => ?_)
            · have h := h.1 hc
              exact x_sub X [] rfl (k65 p0_begun_35 p0_position_35 h)
            · have h := h.2 hc
              refine x_iload_n X dX9_readEdges_53 3 rfl ?_
              refine x_iload_n X dX9_readEdges_54 4 rfl ?_
              refine x_iload X dX9_readEdges_55 1 rfl ?_
              refine x_iload X dX9_readEdges_57 0 rfl ?_
              refine x_callSI (av := [.int x1, .int x3, .int r17, .int r35]) (st := []) (wr := [(h_p0, .inr (7, [.ref h_p0_bytes, .int p0_length, .int p0_position_35, .int p0_begun_35, .int p0_wrong])), (h_p0_bytes, aI T 400 p0_bytes)]) X (c_X0_areJoined l D T  x1 x3 r17 r35 _ h) yk_X0_areJoined tw_733 dX9_readEdges_59 [] [0, 1] rfl rfl rfl rfl (by decide) rfl rfl (Nat.le_of_ble_eq_true rfl) (Nat.le_of_ble_eq_true rfl) (Nat.le_of_ble_eq_true rfl) (Nat.zero_le _) (Nat.zero_le _) (fun r59 w1 hw => ?_)
              obtain ⟨rfl, h⟩ := hw
              refine x_perm (ws2 := [(h_p0, .inr (7, [.ref h_p0_bytes, .int p0_length, .int p0_position_35, .int p0_begun_35, .int p0_wrong])), (h_p0_bytes, aI T 400 p0_bytes)]) X [0, 1] rfl rfl ?_
              refine x_if_eq (tgt := 67) X dX9_readEdges_62 (by decide) (fun hc => ?_) (fun hc => ?_)
              · have h := h.1 hc
                refine x_iload_n X dX9_readEdges_67 4 rfl ?_
                refine x_iload_n X dX9_readEdges_68 3 rfl ?_
                refine x_iload X dX9_readEdges_69 1 rfl ?_
                refine x_iload X dX9_readEdges_71 0 rfl ?_
                refine x_callSI (av := [.int x1, .int r17, .int r35]) (st := [.int x3]) (wr := [(h_p0, .inr (7, [.ref h_p0_bytes, .int p0_length, .int p0_position_35, .int p0_begun_35, .int p0_wrong])), (h_p0_bytes, aI T 400 p0_bytes)]) X (c_X0_edge l D T  x1 r17 r35 _ h) yk_X0_edge tw_736 dX9_readEdges_73 [] [0, 1] rfl rfl rfl rfl (by decide) rfl rfl (Nat.le_of_ble_eq_true rfl) (Nat.le_of_ble_eq_true rfl) (Nat.le_of_ble_eq_true rfl) (Nat.zero_le _) (Nat.zero_le _) (fun r73 w1 hw => ?_)
                obtain ⟨rfl, h⟩ := hw
                refine x_perm (ws2 := [(h_p0, .inr (7, [.ref h_p0_bytes, .int p0_length, .int p0_position_35, .int p0_begun_35, .int p0_wrong])), (h_p0_bytes, aI T 400 p0_bytes)]) X [0, 1] rfl rfl ?_
                refine x_ior X dX9_readEdges_76 ?_
                refine x_istore_n (lv' := [(3, .int (x3 ||| r73)), (6, .int r35), (5, .int r17), (0, .ref h_p0), (1, .int x1), (4, .int x4)]) X dX9_readEdges_77 (by decide) rfl ?_
                refine x_aload_n X dX9_readEdges_78 3 rfl ?_
                refine x_bipush (v := 44) X dX9_readEdges_79 (by decide) ?_
                refine x_callVI (av := [.int (44 : Int32)]) (st := []) (wr := []) X (c_X8_takesSign l D T h_p0 h_p0_bytes p0_begun_35 p0_length p0_position_35 p0_wrong p0_bytes (44 : Int32) _ h) yk_X8_takesSign tw_700 dX9_readEdges_81 0 rfl rfl [0, 1] [] rfl rfl rfl rfl (by decide) rfl rfl (Nat.le_of_ble_eq_true rfl) (Nat.le_of_ble_eq_true rfl) (Nat.le_of_ble_eq_true rfl) (Nat.zero_le _) (Nat.zero_le _) (fun r81 w1 hw => ?_)
                obtain ⟨p0_begun_81, p0_position_81, rfl, h⟩ := hw
                refine x_perm (ws2 := [(h_p0, .inr (7, [.ref h_p0_bytes, .int p0_length, .int p0_position_81, .int p0_begun_81, .int p0_wrong])), (h_p0_bytes, aI T 400 p0_bytes)]) X [0, 1] rfl rfl ?_
                refine x_if_ne (tgt := 89) X dX9_readEdges_84 (by decide) (fun hc => ?_) (fun hc => ?_)
                · have h := h.1 hc
                  refine x_iinc (v := (x4 + 1)) (lv' := [(4, .int (x4 + 1)), (3, .int (x3 ||| r73)), (6, .int r35), (5, .int r17), (0, .ref h_p0), (1, .int x1)]) X dX9_readEdges_89 5 rfl rfl (by decide) rfl ?_
                  refine x_goto (tgt := 5) X dX9_readEdges_92 (by decide) ?_
                  exact x_sub X [4, 5, 1, 0] rfl (ih5 x1 (x3 ||| r73) (x4 + 1) p0_begun_81 p0_position_81 h)
                · have h := h.2 hc
                  refine x_iload_n X dX9_readEdges_87 0 rfl ?_
                  exact hret _ _ _ _ dX9_readEdges_88 rfl ⟨p0_begun_81, p0_position_81, rfl, h⟩
              · have h := h.2 hc
                exact x_sub X [] rfl (k65 p0_begun_35 p0_position_35 h)
        · have h := h.2 hc
          refine x_iconst (v := -1) X dX9_readEdges_28 (by decide) ?_
          exact hret _ _ _ _ dX9_readEdges_29 rfl ⟨p0_begun_17, p0_position_17, rfl, h⟩
  refine x_iload_n X dX9_readEdges_0 2 rfl ?_
  refine x_istore_n (lv' := [(3, .int p2), (0, .ref h_p0), (1, .int p1), (2, .int p2)]) X dX9_readEdges_1 (by decide) rfl ?_
  refine x_iconst (v := 0) X dX9_readEdges_2 (by decide) ?_
  refine x_istore (lv' := [(4, .int (0 : Int32)), (3, .int p2), (0, .ref h_p0), (1, .int p1), (2, .int p2)]) X dX9_readEdges_3 (by decide) rfl ?_
  obtain ⟨n5, h⟩ := h
  exact x_sub X [2, 3, 1, 0] rfl (k5 n5 p1 p2 (0 : Int32) p0_begun p0_position h)
theorem dX9_readPattern_0 : decode cX9_readPattern 0 = .ok (.aload_n 1, 1) := by decide +kernel
theorem dX9_readPattern_1 : decode cX9_readPattern 1 = .ok (.invokevirtual 94, 3) := by decide +kernel
theorem dX9_readPattern_4 : decode cX9_readPattern 4 = .ok (.ifCond .ne 5, 3) := by decide +kernel
theorem dX9_readPattern_7 : decode cX9_readPattern 7 = .ok (.iconst 0, 1) := by decide +kernel
theorem dX9_readPattern_8 : decode cX9_readPattern 8 = .ok (.ireturn, 1) := by decide +kernel
theorem dX9_readPattern_9 : decode cX9_readPattern 9 = .ok (.aload_n 0, 1) := by decide +kernel
theorem dX9_readPattern_10 : decode cX9_readPattern 10 = .ok (.iconst 2, 1) := by decide +kernel
theorem dX9_readPattern_11 : decode cX9_readPattern 11 = .ok (.iconst 4, 1) := by decide +kernel
theorem dX9_readPattern_12 : decode cX9_readPattern 12 = .ok (.invokevirtual 22, 3) := by decide +kernel
theorem dX9_readPattern_15 : decode cX9_readPattern 15 = .ok (.istore_n 2, 1) := by decide +kernel
theorem dX9_readPattern_16 : decode cX9_readPattern 16 = .ok (.iload_n 2, 1) := by decide +kernel
theorem dX9_readPattern_17 : decode cX9_readPattern 17 = .ok (.iconst (-1), 1) := by decide +kernel
theorem dX9_readPattern_18 : decode cX9_readPattern 18 = .ok (.if_icmp .ne 5, 3) := by decide +kernel
theorem dX9_readPattern_21 : decode cX9_readPattern 21 = .ok (.iconst 0, 1) := by decide +kernel
theorem dX9_readPattern_22 : decode cX9_readPattern 22 = .ok (.ireturn, 1) := by decide +kernel
theorem dX9_readPattern_23 : decode cX9_readPattern 23 = .ok (.aload_n 0, 1) := by decide +kernel
theorem dX9_readPattern_24 : decode cX9_readPattern 24 = .ok (.bipush 58, 2) := by decide +kernel
theorem dX9_readPattern_26 : decode cX9_readPattern 26 = .ok (.invokevirtual 42, 3) := by decide +kernel
theorem dX9_readPattern_29 : decode cX9_readPattern 29 = .ok (.ifCond .eq 12, 3) := by decide +kernel
theorem dX9_readPattern_32 : decode cX9_readPattern 32 = .ok (.aload_n 0, 1) := by decide +kernel
theorem dX9_readPattern_33 : decode cX9_readPattern 33 = .ok (.iload_n 2, 1) := by decide +kernel
theorem dX9_readPattern_34 : decode cX9_readPattern 34 = .ok (.iconst 0, 1) := by decide +kernel
theorem dX9_readPattern_35 : decode cX9_readPattern 35 = .ok (.invokestatic 97, 3) := by decide +kernel
theorem dX9_readPattern_38 : decode cX9_readPattern 38 = .ok (.goto 4, 3) := by decide +kernel
theorem dX9_readPattern_41 : decode cX9_readPattern 41 = .ok (.iconst 0, 1) := by decide +kernel
theorem dX9_readPattern_42 : decode cX9_readPattern 42 = .ok (.istore_n 3, 1) := by decide +kernel
theorem dX9_readPattern_43 : decode cX9_readPattern 43 = .ok (.iload_n 3, 1) := by decide +kernel
theorem dX9_readPattern_44 : decode cX9_readPattern 44 = .ok (.iconst (-1), 1) := by decide +kernel
theorem dX9_readPattern_45 : decode cX9_readPattern 45 = .ok (.if_icmp .ne 5, 3) := by decide +kernel
theorem dX9_readPattern_48 : decode cX9_readPattern 48 = .ok (.iconst 0, 1) := by decide +kernel
theorem dX9_readPattern_49 : decode cX9_readPattern 49 = .ok (.ireturn, 1) := by decide +kernel
theorem dX9_readPattern_50 : decode cX9_readPattern 50 = .ok (.aload_n 1, 1) := by decide +kernel
theorem dX9_readPattern_51 : decode cX9_readPattern 51 = .ok (.iload_n 2, 1) := by decide +kernel
theorem dX9_readPattern_52 : decode cX9_readPattern 52 = .ok (.iload_n 3, 1) := by decide +kernel
theorem dX9_readPattern_53 : decode cX9_readPattern 53 = .ok (.invokevirtual 101, 3) := by decide +kernel
theorem dX9_readPattern_56 : decode cX9_readPattern 56 = .ok (.iconst 1, 1) := by decide +kernel
theorem dX9_readPattern_57 : decode cX9_readPattern 57 = .ok (.ireturn, 1) := by decide +kernel
set_option maxHeartbeats 4000000 in
set_option maxRecDepth 100000 in
theorem c_X9_readPattern (l : Launch) (D : va_G) (T : Nat → ClassId) (h_p0 h_p0_bytes h_p1 h_p1_patternNodes h_p1_patternCodes : Nat) (p0_begun : Int32) (p0_length : Int32) (p0_position : Int32) (p0_wrong : Int32) (p0_bytes : Nat → Int32) (p1_bannedCircles : Int32) (p1_endLines : Int32) (p1_endsJoined : Int32) (p1_fewestEdges : Int32) (p1_hasDark : Int32) (p1_least : Int32) (p1_most : Int32) (p1_mostEdges : Int32) (p1_patterns : Int32) (p1_ruleLines : Int32) (p1_size : Int32) (p1_unlike : Int32) (p1_words : Int32) (p1_patternCodes : Nat → Int32) (p1_patternNodes : Nat → Int32) (post : Int32 → Int32 → Int32 → Int32 → (Nat → Int32) → (Nat → Int32) → Prop) (h : F_X9_readPattern p0_length p0_bytes p0_begun p0_position p1_patterns p1_patternCodes p1_patternNodes post) : cI l D T yX9_readPattern cX9_readPattern 4 (some .boolean) 4 121 0 0 [.ref h_p0, .ref h_p1] [(h_p0, .inr (7, [.ref h_p0_bytes, .int p0_length, .int p0_position, .int p0_begun, .int p0_wrong])), (h_p0_bytes, aI T 400 p0_bytes), (h_p1, .inr (5, [.int p1_size, .int p1_hasDark, .int p1_words, .int p1_ruleLines, .int p1_endLines, .int p1_most, .int p1_bannedCircles, .int p1_unlike, .int p1_patterns, .ref h_p1_patternNodes, .ref h_p1_patternCodes, .int p1_endsJoined, .int p1_fewestEdges, .int p1_mostEdges, .int p1_least])), (h_p1_patternCodes, aI T 2 p1_patternCodes), (h_p1_patternNodes, aI T 2 p1_patternNodes)] (fun r w1 => ∃ (p0_begun1 : Int32) (p0_position1 : Int32) (p1_patterns1 : Int32) (p1_patternCodes1 : Nat → Int32) (p1_patternNodes1 : Nat → Int32), w1 = [(h_p0, .inr (7, [.ref h_p0_bytes, .int p0_length, .int p0_position1, .int p0_begun1, .int p0_wrong])), (h_p0_bytes, aI T 400 p0_bytes), (h_p1, .inr (5, [.int p1_size, .int p1_hasDark, .int p1_words, .int p1_ruleLines, .int p1_endLines, .int p1_most, .int p1_bannedCircles, .int p1_unlike, .int p1_patterns1, .ref h_p1_patternNodes, .ref h_p1_patternCodes, .int p1_endsJoined, .int p1_fewestEdges, .int p1_mostEdges, .int p1_least])), (h_p1_patternCodes, aI T 2 p1_patternCodes1), (h_p1_patternNodes, aI T 2 p1_patternNodes1)] ∧ post r p0_begun1 p0_position1 p1_patterns1 p1_patternCodes1 p1_patternNodes1) := by
  refine xI_of (ty := .boolean) (by decide +kernel) (Nat.le_of_ble_eq_true rfl) rfl ?_
  intro G X hret
  change G 0 0 0 [(0, .ref h_p0), (1, .ref h_p1)] [] [(h_p0, .inr (7, [.ref h_p0_bytes, .int p0_length, .int p0_position, .int p0_begun, .int p0_wrong])), (h_p0_bytes, aI T 400 p0_bytes), (h_p1, .inr (5, [.int p1_size, .int p1_hasDark, .int p1_words, .int p1_ruleLines, .int p1_endLines, .int p1_most, .int p1_bannedCircles, .int p1_unlike, .int p1_patterns, .ref h_p1_patternNodes, .ref h_p1_patternCodes, .int p1_endsJoined, .int p1_fewestEdges, .int p1_mostEdges, .int p1_least])), (h_p1_patternCodes, aI T 2 p1_patternCodes), (h_p1_patternNodes, aI T 2 p1_patternNodes)]
  unfold F_X9_readPattern at h
  have k42 : ∀ (x2 : Int32) (s0 : Int32) (p0_begun : Int32) (p0_position : Int32) (p1_patterns : Int32) (p1_patternCodes : Nat → Int32) (p1_patternNodes : Nat → Int32), F_X9_readPattern_42 p0_length p0_bytes post x2 s0 p0_begun p0_position p1_patterns p1_patternCodes p1_patternNodes → G 0 0 42 [(1, .ref h_p1), (2, .int x2)] [.int s0] [(h_p0, .inr (7, [.ref h_p0_bytes, .int p0_length, .int p0_position, .int p0_begun, .int p0_wrong])), (h_p0_bytes, aI T 400 p0_bytes), (h_p1, .inr (5, [.int p1_size, .int p1_hasDark, .int p1_words, .int p1_ruleLines, .int p1_endLines, .int p1_most, .int p1_bannedCircles, .int p1_unlike, .int p1_patterns, .ref h_p1_patternNodes, .ref h_p1_patternCodes, .int p1_endsJoined, .int p1_fewestEdges, .int p1_mostEdges, .int p1_least])), (h_p1_patternCodes, aI T 2 p1_patternCodes), (h_p1_patternNodes, aI T 2 p1_patternNodes)] := by
    intro x2 s0 p0_begun p0_position p1_patterns p1_patternCodes p1_patternNodes h
    unfold F_X9_readPattern_42 at h
    refine x_istore_n (lv' := [(3, .int s0), (1, .ref h_p1), (2, .int x2)]) X dX9_readPattern_42 (by decide) rfl ?_
    refine x_iload_n X dX9_readPattern_43 0 rfl ?_
    refine x_iconst (v := -1) X dX9_readPattern_44 (by decide) ?_
    refine x_icmp_ne (tgt := 50) X dX9_readPattern_45 (by decide) (fun hc => ?_) (fun hc => ?_)
    · have h := h.1 hc
      refine x_aload_n X dX9_readPattern_50 1 rfl ?_
      refine x_iload_n X dX9_readPattern_51 2 rfl ?_
      refine x_iload_n X dX9_readPattern_52 0 rfl ?_
      refine x_callVV (av := [.int x2, .int s0]) (st := []) (wr := [(h_p0, .inr (7, [.ref h_p0_bytes, .int p0_length, .int p0_position, .int p0_begun, .int p0_wrong])), (h_p0_bytes, aI T 400 p0_bytes)]) X (c_X6_addPattern l D T h_p1 h_p1_patternNodes h_p1_patternCodes p1_bannedCircles p1_endLines p1_endsJoined p1_fewestEdges p1_hasDark p1_least p1_most p1_mostEdges p1_patterns p1_ruleLines p1_size p1_unlike p1_words p1_patternCodes p1_patternNodes x2 s0 _ h) yk_X6_addPattern tw_737 dX9_readPattern_53 2 rfl rfl [2, 3, 4] [0, 1] rfl rfl rfl rfl (by decide) rfl rfl (Nat.le_of_ble_eq_true rfl) (Nat.le_of_ble_eq_true rfl) (Nat.le_of_ble_eq_true rfl) (Nat.zero_le _) (Nat.zero_le _) (fun w1 hw => ?_)
      obtain ⟨p1_patterns_53, p1_patternCodes_53, p1_patternNodes_53, rfl, h⟩ := hw
      refine x_perm (ws2 := [(h_p0, .inr (7, [.ref h_p0_bytes, .int p0_length, .int p0_position, .int p0_begun, .int p0_wrong])), (h_p0_bytes, aI T 400 p0_bytes), (h_p1, .inr (5, [.int p1_size, .int p1_hasDark, .int p1_words, .int p1_ruleLines, .int p1_endLines, .int p1_most, .int p1_bannedCircles, .int p1_unlike, .int p1_patterns_53, .ref h_p1_patternNodes, .ref h_p1_patternCodes, .int p1_endsJoined, .int p1_fewestEdges, .int p1_mostEdges, .int p1_least])), (h_p1_patternCodes, aI T 2 p1_patternCodes_53), (h_p1_patternNodes, aI T 2 p1_patternNodes_53)]) X [0, 1, 2, 3, 4] rfl rfl ?_
      refine x_iconst (v := 1) X dX9_readPattern_56 (by decide) ?_
      exact hret _ _ _ _ dX9_readPattern_57 rfl ⟨p0_begun, p0_position, p1_patterns_53, p1_patternCodes_53, p1_patternNodes_53, rfl, h⟩
    · have h := h.2 hc
      refine x_iconst (v := 0) X dX9_readPattern_48 (by decide) ?_
      obtain ⟨hz, h⟩ := h
      exact hret _ _ _ _ dX9_readPattern_49 (e_nz hz) ⟨p0_begun, p0_position, p1_patterns, p1_patternCodes, p1_patternNodes, rfl, h⟩
  refine x_aload_n X dX9_readPattern_0 1 rfl ?_
  refine x_callVI (av := []) (st := []) (wr := [(h_p0, .inr (7, [.ref h_p0_bytes, .int p0_length, .int p0_position, .int p0_begun, .int p0_wrong])), (h_p0_bytes, aI T 400 p0_bytes), (h_p1_patternCodes, aI T 2 p1_patternCodes), (h_p1_patternNodes, aI T 2 p1_patternNodes)]) X (c_X6_hasRoomForPattern l D T h_p1 h_p1_patternNodes h_p1_patternCodes p1_bannedCircles p1_endLines p1_endsJoined p1_fewestEdges p1_hasDark p1_least p1_most p1_mostEdges p1_patterns p1_ruleLines p1_size p1_unlike p1_words _ h) yk_X6_hasRoomForPattern tw_726 dX9_readPattern_1 2 rfl rfl [2] [0, 1, 3, 4] rfl rfl rfl rfl (by decide) rfl rfl (Nat.le_of_ble_eq_true rfl) (Nat.le_of_ble_eq_true rfl) (Nat.le_of_ble_eq_true rfl) (Nat.zero_le _) (Nat.zero_le _) (fun r1 w1 hw => ?_)
  obtain ⟨rfl, h⟩ := hw
  refine x_perm (ws2 := [(h_p0, .inr (7, [.ref h_p0_bytes, .int p0_length, .int p0_position, .int p0_begun, .int p0_wrong])), (h_p0_bytes, aI T 400 p0_bytes), (h_p1, .inr (5, [.int p1_size, .int p1_hasDark, .int p1_words, .int p1_ruleLines, .int p1_endLines, .int p1_most, .int p1_bannedCircles, .int p1_unlike, .int p1_patterns, .ref h_p1_patternNodes, .ref h_p1_patternCodes, .int p1_endsJoined, .int p1_fewestEdges, .int p1_mostEdges, .int p1_least])), (h_p1_patternCodes, aI T 2 p1_patternCodes), (h_p1_patternNodes, aI T 2 p1_patternNodes)]) X [0, 1, 4, 2, 3] rfl rfl ?_
  refine x_if_ne (tgt := 9) X dX9_readPattern_4 (by decide) (fun hc => ?_) (fun hc => ?_)
  · have h := h.1 hc
    refine x_aload_n X dX9_readPattern_9 0 rfl ?_
    refine x_iconst (v := 2) X dX9_readPattern_10 (by decide) ?_
    refine x_iconst (v := 4) X dX9_readPattern_11 (by decide) ?_
    refine x_callVI (av := [.int (2 : Int32), .int (4 : Int32)]) (st := []) (wr := [(h_p1, .inr (5, [.int p1_size, .int p1_hasDark, .int p1_words, .int p1_ruleLines, .int p1_endLines, .int p1_most, .int p1_bannedCircles, .int p1_unlike, .int p1_patterns, .ref h_p1_patternNodes, .ref h_p1_patternCodes, .int p1_endsJoined, .int p1_fewestEdges, .int p1_mostEdges, .int p1_least])), (h_p1_patternCodes, aI T 2 p1_patternCodes), (h_p1_patternNodes, aI T 2 p1_patternNodes)]) X (c_X8_takeNumber l D T h_p0 h_p0_bytes p0_begun p0_length p0_position p0_wrong p0_bytes (2 : Int32) (4 : Int32) _ h) yk_X8_takeNumber tw_687 dX9_readPattern_12 0 rfl rfl [0, 1] [2, 3, 4] rfl rfl rfl rfl (by decide) rfl rfl (Nat.le_of_ble_eq_true rfl) (Nat.le_of_ble_eq_true rfl) (Nat.le_of_ble_eq_true rfl) (Nat.zero_le _) (Nat.zero_le _) (fun r12 w1 hw => ?_)
    obtain ⟨p0_begun_12, p0_position_12, rfl, h⟩ := hw
    refine x_perm (ws2 := [(h_p0, .inr (7, [.ref h_p0_bytes, .int p0_length, .int p0_position_12, .int p0_begun_12, .int p0_wrong])), (h_p0_bytes, aI T 400 p0_bytes), (h_p1, .inr (5, [.int p1_size, .int p1_hasDark, .int p1_words, .int p1_ruleLines, .int p1_endLines, .int p1_most, .int p1_bannedCircles, .int p1_unlike, .int p1_patterns, .ref h_p1_patternNodes, .ref h_p1_patternCodes, .int p1_endsJoined, .int p1_fewestEdges, .int p1_mostEdges, .int p1_least])), (h_p1_patternCodes, aI T 2 p1_patternCodes), (h_p1_patternNodes, aI T 2 p1_patternNodes)]) X [3, 4, 0, 1, 2] rfl rfl ?_
    refine x_istore_n (lv' := [(2, .int r12), (0, .ref h_p0), (1, .ref h_p1)]) X dX9_readPattern_15 (by decide) rfl ?_
    refine x_iload_n X dX9_readPattern_16 0 rfl ?_
    refine x_iconst (v := -1) X dX9_readPattern_17 (by decide) ?_
    refine x_icmp_ne (tgt := 23) X dX9_readPattern_18 (by decide) (fun hc => ?_) (fun hc => ?_)
    · have h := h.1 hc
      refine x_aload_n X dX9_readPattern_23 1 rfl ?_
      refine x_bipush (v := 58) X dX9_readPattern_24 (by decide) ?_
      refine x_callVI (av := [.int (58 : Int32)]) (st := []) (wr := [(h_p1, .inr (5, [.int p1_size, .int p1_hasDark, .int p1_words, .int p1_ruleLines, .int p1_endLines, .int p1_most, .int p1_bannedCircles, .int p1_unlike, .int p1_patterns, .ref h_p1_patternNodes, .ref h_p1_patternCodes, .int p1_endsJoined, .int p1_fewestEdges, .int p1_mostEdges, .int p1_least])), (h_p1_patternCodes, aI T 2 p1_patternCodes), (h_p1_patternNodes, aI T 2 p1_patternNodes)]) X (c_X8_takesSign l D T h_p0 h_p0_bytes p0_begun_12 p0_length p0_position_12 p0_wrong p0_bytes (58 : Int32) _ h) yk_X8_takesSign tw_700 dX9_readPattern_26 0 rfl rfl [0, 1] [2, 3, 4] rfl rfl rfl rfl (by decide) rfl rfl (Nat.le_of_ble_eq_true rfl) (Nat.le_of_ble_eq_true rfl) (Nat.le_of_ble_eq_true rfl) (Nat.zero_le _) (Nat.zero_le _) (fun r26 w1 hw => ?_)
      obtain ⟨p0_begun_26, p0_position_26, rfl, h⟩ := hw
      refine x_perm (ws2 := [(h_p0, .inr (7, [.ref h_p0_bytes, .int p0_length, .int p0_position_26, .int p0_begun_26, .int p0_wrong])), (h_p0_bytes, aI T 400 p0_bytes), (h_p1, .inr (5, [.int p1_size, .int p1_hasDark, .int p1_words, .int p1_ruleLines, .int p1_endLines, .int p1_most, .int p1_bannedCircles, .int p1_unlike, .int p1_patterns, .ref h_p1_patternNodes, .ref h_p1_patternCodes, .int p1_endsJoined, .int p1_fewestEdges, .int p1_mostEdges, .int p1_least])), (h_p1_patternCodes, aI T 2 p1_patternCodes), (h_p1_patternNodes, aI T 2 p1_patternNodes)]) X [3, 4, 0, 1, 2] rfl rfl ?_
      refine x_if_eq (tgt := 41) X dX9_readPattern_29 (by decide) (fun hc => ?_) (fun hc => ?_)
      · have h := h.1 hc
        refine x_iconst (v := 0) X dX9_readPattern_41 (by decide) ?_
        exact x_sub X [2, 0] rfl (k42 r12 (0 : Int32) p0_begun_26 p0_position_26 p1_patterns p1_patternCodes p1_patternNodes h)
      · have h := h.2 hc
        refine x_aload_n X dX9_readPattern_32 1 rfl ?_
        refine x_iload_n X dX9_readPattern_33 0 rfl ?_
        refine x_iconst (v := 0) X dX9_readPattern_34 (by decide) ?_
        refine x_callSI (av := [.ref h_p0, .int r12, .int (0 : Int32)]) (st := []) (wr := [(h_p1, .inr (5, [.int p1_size, .int p1_hasDark, .int p1_words, .int p1_ruleLines, .int p1_endLines, .int p1_most, .int p1_bannedCircles, .int p1_unlike, .int p1_patterns, .ref h_p1_patternNodes, .ref h_p1_patternCodes, .int p1_endsJoined, .int p1_fewestEdges, .int p1_mostEdges, .int p1_least])), (h_p1_patternCodes, aI T 2 p1_patternCodes), (h_p1_patternNodes, aI T 2 p1_patternNodes)]) X (c_X9_readEdges l D T h_p0 h_p0_bytes p0_begun_26 p0_length p0_position_26 p0_wrong p0_bytes r12 (0 : Int32) _ h) yk_X9_readEdges tw_730 dX9_readPattern_35 [0, 1] [2, 3, 4] rfl rfl rfl rfl (by decide) rfl rfl (Nat.le_of_ble_eq_true rfl) (Nat.le_of_ble_eq_true rfl) (Nat.le_of_ble_eq_true rfl) (Nat.zero_le _) (Nat.zero_le _) (fun r35 w1 hw => ?_)
        obtain ⟨p0_begun_35, p0_position_35, rfl, h⟩ := hw
        refine x_perm (ws2 := [(h_p0, .inr (7, [.ref h_p0_bytes, .int p0_length, .int p0_position_35, .int p0_begun_35, .int p0_wrong])), (h_p0_bytes, aI T 400 p0_bytes), (h_p1, .inr (5, [.int p1_size, .int p1_hasDark, .int p1_words, .int p1_ruleLines, .int p1_endLines, .int p1_most, .int p1_bannedCircles, .int p1_unlike, .int p1_patterns, .ref h_p1_patternNodes, .ref h_p1_patternCodes, .int p1_endsJoined, .int p1_fewestEdges, .int p1_mostEdges, .int p1_least])), (h_p1_patternCodes, aI T 2 p1_patternCodes), (h_p1_patternNodes, aI T 2 p1_patternNodes)]) X [3, 4, 0, 1, 2] rfl rfl ?_
        refine x_goto (tgt := 42) X dX9_readPattern_38 (by decide) ?_
        exact x_sub X [2, 0] rfl (k42 r12 r35 p0_begun_35 p0_position_35 p1_patterns p1_patternCodes p1_patternNodes h)
    · have h := h.2 hc
      refine x_iconst (v := 0) X dX9_readPattern_21 (by decide) ?_
      obtain ⟨hz, h⟩ := h
      exact hret _ _ _ _ dX9_readPattern_22 (e_nz hz) ⟨p0_begun_12, p0_position_12, p1_patterns, p1_patternCodes, p1_patternNodes, rfl, h⟩
  · have h := h.2 hc
    refine x_iconst (v := 0) X dX9_readPattern_7 (by decide) ?_
    obtain ⟨hz, h⟩ := h
    exact hret _ _ _ _ dX9_readPattern_8 (e_nz hz) ⟨p0_begun, p0_position, p1_patterns, p1_patternCodes, p1_patternNodes, rfl, h⟩
theorem dX9_readColours_0 : decode cX9_readColours 0 = .ok (.iconst 0, 1) := by decide +kernel
theorem dX9_readColours_1 : decode cX9_readColours 1 = .ok (.istore_n 2, 1) := by decide +kernel
theorem dX9_readColours_2 : decode cX9_readColours 2 = .ok (.iconst 0, 1) := by decide +kernel
theorem dX9_readColours_3 : decode cX9_readColours 3 = .ok (.istore_n 3, 1) := by decide +kernel
theorem dX9_readColours_4 : decode cX9_readColours 4 = .ok (.iload_n 3, 1) := by decide +kernel
theorem dX9_readColours_5 : decode cX9_readColours 5 = .ok (.iload_n 1, 1) := by decide +kernel
theorem dX9_readColours_6 : decode cX9_readColours 6 = .ok (.if_icmp .gt 58, 3) := by decide +kernel
theorem dX9_readColours_9 : decode cX9_readColours 9 = .ok (.iload_n 3, 1) := by decide +kernel
theorem dX9_readColours_10 : decode cX9_readColours 10 = .ok (.ifCond .eq 10, 3) := by decide +kernel
theorem dX9_readColours_13 : decode cX9_readColours 13 = .ok (.aload_n 0, 1) := by decide +kernel
theorem dX9_readColours_14 : decode cX9_readColours 14 = .ok (.invokevirtual 148, 3) := by decide +kernel
theorem dX9_readColours_17 : decode cX9_readColours 17 = .ok (.ifCond .eq 47, 3) := by decide +kernel
theorem dX9_readColours_20 : decode cX9_readColours 20 = .ok (.aload_n 0, 1) := by decide +kernel
theorem dX9_readColours_21 : decode cX9_readColours 21 = .ok (.iconst 0, 1) := by decide +kernel
theorem dX9_readColours_22 : decode cX9_readColours 22 = .ok (.iload_n 1, 1) := by decide +kernel
theorem dX9_readColours_23 : decode cX9_readColours 23 = .ok (.iconst 1, 1) := by decide +kernel
theorem dX9_readColours_24 : decode cX9_readColours 24 = .ok (.isub, 1) := by decide +kernel
theorem dX9_readColours_25 : decode cX9_readColours 25 = .ok (.invokevirtual 22, 3) := by decide +kernel
theorem dX9_readColours_28 : decode cX9_readColours 28 = .ok (.istore 4, 2) := by decide +kernel
theorem dX9_readColours_30 : decode cX9_readColours 30 = .ok (.iload 4, 2) := by decide +kernel
theorem dX9_readColours_32 : decode cX9_readColours 32 = .ok (.iconst (-1), 1) := by decide +kernel
theorem dX9_readColours_33 : decode cX9_readColours 33 = .ok (.if_icmp .eq 14, 3) := by decide +kernel
theorem dX9_readColours_36 : decode cX9_readColours 36 = .ok (.iload_n 2, 1) := by decide +kernel
theorem dX9_readColours_37 : decode cX9_readColours 37 = .ok (.iload_n 1, 1) := by decide +kernel
theorem dX9_readColours_38 : decode cX9_readColours 38 = .ok (.iload 4, 2) := by decide +kernel
theorem dX9_readColours_40 : decode cX9_readColours 40 = .ok (.invokestatic 151, 3) := by decide +kernel
theorem dX9_readColours_43 : decode cX9_readColours 43 = .ok (.iand, 1) := by decide +kernel
theorem dX9_readColours_44 : decode cX9_readColours 44 = .ok (.ifCond .eq 5, 3) := by decide +kernel
theorem dX9_readColours_47 : decode cX9_readColours 47 = .ok (.iconst (-1), 1) := by decide +kernel
theorem dX9_readColours_48 : decode cX9_readColours 48 = .ok (.ireturn, 1) := by decide +kernel
theorem dX9_readColours_49 : decode cX9_readColours 49 = .ok (.iload_n 2, 1) := by decide +kernel
theorem dX9_readColours_50 : decode cX9_readColours 50 = .ok (.iload_n 1, 1) := by decide +kernel
theorem dX9_readColours_51 : decode cX9_readColours 51 = .ok (.iload 4, 2) := by decide +kernel
theorem dX9_readColours_53 : decode cX9_readColours 53 = .ok (.invokestatic 151, 3) := by decide +kernel
theorem dX9_readColours_56 : decode cX9_readColours 56 = .ok (.ior, 1) := by decide +kernel
theorem dX9_readColours_57 : decode cX9_readColours 57 = .ok (.istore_n 2, 1) := by decide +kernel
theorem dX9_readColours_58 : decode cX9_readColours 58 = .ok (.iinc 3 1, 3) := by decide +kernel
theorem dX9_readColours_61 : decode cX9_readColours 61 = .ok (.goto (-57), 3) := by decide +kernel
theorem dX9_readColours_64 : decode cX9_readColours 64 = .ok (.iload_n 2, 1) := by decide +kernel
theorem dX9_readColours_65 : decode cX9_readColours 65 = .ok (.ireturn, 1) := by decide +kernel
set_option maxHeartbeats 4000000 in
set_option maxRecDepth 100000 in
theorem c_X9_readColours (l : Launch) (D : va_G) (T : Nat → ClassId) (h_p0 h_p0_bytes : Nat) (p0_begun : Int32) (p0_length : Int32) (p0_position : Int32) (p0_wrong : Int32) (p0_bytes : Nat → Int32) (p1 : Int32) (post : Int32 → Int32 → Int32 → Prop) (h : F_X9_readColours p0_length p0_bytes p0_begun p0_position p1 post) : cI l D T yX9_readColours cX9_readColours 5 (some .int) 3 67 0 0 [.ref h_p0, .int p1] [(h_p0, .inr (7, [.ref h_p0_bytes, .int p0_length, .int p0_position, .int p0_begun, .int p0_wrong])), (h_p0_bytes, aI T 400 p0_bytes)] (fun r w1 => ∃ (p0_begun1 : Int32) (p0_position1 : Int32), w1 = [(h_p0, .inr (7, [.ref h_p0_bytes, .int p0_length, .int p0_position1, .int p0_begun1, .int p0_wrong])), (h_p0_bytes, aI T 400 p0_bytes)] ∧ post r p0_begun1 p0_position1) := by
  refine xI_of (ty := .int) (by decide +kernel) (Nat.le_of_ble_eq_true rfl) rfl ?_
  intro G X hret
  change G 0 0 0 [(0, .ref h_p0), (1, .int p1)] [] [(h_p0, .inr (7, [.ref h_p0_bytes, .int p0_length, .int p0_position, .int p0_begun, .int p0_wrong])), (h_p0_bytes, aI T 400 p0_bytes)]
  unfold F_X9_readColours at h
  have k4 : ∀ (n4 : Nat) (x1 : Int32) (x2 : Int32) (x3 : Int32) (p0_begun : Int32) (p0_position : Int32), F_X9_readColours_4 p0_length p0_bytes post n4 x1 x2 x3 p0_begun p0_position → G 0 0 4 [(0, .ref h_p0), (1, .int x1), (2, .int x2), (3, .int x3)] [] [(h_p0, .inr (7, [.ref h_p0_bytes, .int p0_length, .int p0_position, .int p0_begun, .int p0_wrong])), (h_p0_bytes, aI T 400 p0_bytes)] := by
    intro n4
    induction n4 with
    | zero => intro x1 x2 x3 p0_begun p0_position h; exact h.elim
    | succ n4 ih4 =>
      intro x1 x2 x3 p0_begun p0_position h
      rw [F_X9_readColours_4] at h
      have k20 : ∀ (x1 : Int32) (x2 : Int32) (x3 : Int32) (p0_begun : Int32) (p0_position : Int32), F_X9_readColours_20 p0_length p0_bytes post (F_X9_readColours_4 p0_length p0_bytes post n4) x1 x2 x3 p0_begun p0_position → G 0 0 20 [(0, .ref h_p0), (1, .int x1), (2, .int x2), (3, .int x3)] [] [(h_p0, .inr (7, [.ref h_p0_bytes, .int p0_length, .int p0_position, .int p0_begun, .int p0_wrong])), (h_p0_bytes, aI T 400 p0_bytes)] := by
        intro x1 x2 x3 p0_begun p0_position h
        unfold F_X9_readColours_20 at h
        have k47 : ∀ (p0_begun : Int32) (p0_position : Int32), F_X9_readColours_47 p0_length p0_bytes post p0_begun p0_position → G 0 0 47 [] [] [(h_p0, .inr (7, [.ref h_p0_bytes, .int p0_length, .int p0_position, .int p0_begun, .int p0_wrong])), (h_p0_bytes, aI T 400 p0_bytes)] := by
          intro p0_begun p0_position h
          unfold F_X9_readColours_47 at h
          refine x_iconst (v := -1) X dX9_readColours_47 (by decide) ?_
          exact hret _ _ _ _ dX9_readColours_48 rfl ⟨p0_begun, p0_position, rfl, h⟩
        refine x_aload_n X dX9_readColours_20 0 rfl ?_
        refine x_iconst (v := 0) X dX9_readColours_21 (by decide) ?_
        refine x_iload_n X dX9_readColours_22 1 rfl ?_
        refine x_iconst (v := 1) X dX9_readColours_23 (by decide) ?_
        refine x_isub X dX9_readColours_24 ?_
        refine x_callVI (av := [.int (0 : Int32), .int (x1 - (1 : Int32))]) (st := []) (wr := []) X (c_X8_takeNumber l D T h_p0 h_p0_bytes p0_begun p0_length p0_position p0_wrong p0_bytes (0 : Int32) (x1 - (1 : Int32)) _ h) yk_X8_takeNumber tw_687 dX9_readColours_25 0 rfl rfl [0, 1] [] rfl rfl rfl rfl (by decide) rfl rfl (Nat.le_of_ble_eq_true rfl) (Nat.le_of_ble_eq_true rfl) (Nat.le_of_ble_eq_true rfl) (Nat.zero_le _) (Nat.zero_le _) (fun r25 w1 hw => ?_)
        obtain ⟨p0_begun_25, p0_position_25, rfl, h⟩ := hw
        refine x_perm (ws2 := [(h_p0, .inr (7, [.ref h_p0_bytes, .int p0_length, .int p0_position_25, .int p0_begun_25, .int p0_wrong])), (h_p0_bytes, aI T 400 p0_bytes)]) X [0, 1] rfl rfl ?_
        refine x_istore (lv' := [(4, .int r25), (0, .ref h_p0), (1, .int x1), (2, .int x2), (3, .int x3)]) X dX9_readColours_28 (by decide) rfl ?_
        refine x_iload X dX9_readColours_30 0 rfl ?_
        refine x_iconst (v := -1) X dX9_readColours_32 (by decide) ?_
        refine x_icmp_eq (tgt := 47) X dX9_readColours_33 (by decide) (fun hc => ?_) (fun hc => ?_)
        · have h := h.1 hc
          exact x_sub X [] rfl (k47 p0_begun_25 p0_position_25 h)
        · have h := h.2 hc
          refine x_iload_n X dX9_readColours_36 3 rfl ?_
          refine x_iload_n X dX9_readColours_37 2 rfl ?_
          refine x_iload X dX9_readColours_38 0 rfl ?_
          refine x_callSI (av := [.int x1, .int r25]) (st := [.int x2]) (wr := [(h_p0, .inr (7, [.ref h_p0_bytes, .int p0_length, .int p0_position_25, .int p0_begun_25, .int p0_wrong])), (h_p0_bytes, aI T 400 p0_bytes)]) X (c_X0_dark l D T  x1 r25 _ h) yk_X0_dark tw_860 dX9_readColours_40 [] [0, 1] rfl rfl rfl rfl (by decide) rfl rfl (Nat.le_of_ble_eq_true rfl) (Nat.le_of_ble_eq_true rfl) (Nat.le_of_ble_eq_true rfl) (Nat.zero_le _) (Nat.zero_le _) (fun r40 w1 hw => ?_)
          obtain ⟨rfl, h⟩ := hw
          refine x_perm (ws2 := [(h_p0, .inr (7, [.ref h_p0_bytes, .int p0_length, .int p0_position_25, .int p0_begun_25, .int p0_wrong])), (h_p0_bytes, aI T 400 p0_bytes)]) X [0, 1] rfl rfl ?_
          refine x_iand X dX9_readColours_43 ?_
          refine x_if_eq (tgt := 49) X dX9_readColours_44 (by decide) (fun hc => ?_) (fun hc => ?_)
          · have h := h.1 hc
            refine x_iload_n X dX9_readColours_49 3 rfl ?_
            refine x_iload_n X dX9_readColours_50 2 rfl ?_
            refine x_iload X dX9_readColours_51 0 rfl ?_
            refine x_callSI (av := [.int x1, .int r25]) (st := [.int x2]) (wr := [(h_p0, .inr (7, [.ref h_p0_bytes, .int p0_length, .int p0_position_25, .int p0_begun_25, .int p0_wrong])), (h_p0_bytes, aI T 400 p0_bytes)]) X (c_X0_dark l D T  x1 r25 _ h) yk_X0_dark tw_860 dX9_readColours_53 [] [0, 1] rfl rfl rfl rfl (by decide) rfl rfl (Nat.le_of_ble_eq_true rfl) (Nat.le_of_ble_eq_true rfl) (Nat.le_of_ble_eq_true rfl) (Nat.zero_le _) (Nat.zero_le _) (fun r53 w1 hw => ?_)
            obtain ⟨rfl, h⟩ := hw
            refine x_perm (ws2 := [(h_p0, .inr (7, [.ref h_p0_bytes, .int p0_length, .int p0_position_25, .int p0_begun_25, .int p0_wrong])), (h_p0_bytes, aI T 400 p0_bytes)]) X [0, 1] rfl rfl ?_
            refine x_ior X dX9_readColours_56 ?_
            refine x_istore_n (lv' := [(2, .int (x2 ||| r53)), (4, .int r25), (0, .ref h_p0), (1, .int x1), (3, .int x3)]) X dX9_readColours_57 (by decide) rfl ?_
            refine x_iinc (v := (x3 + 1)) (lv' := [(3, .int (x3 + 1)), (2, .int (x2 ||| r53)), (4, .int r25), (0, .ref h_p0), (1, .int x1)]) X dX9_readColours_58 4 rfl rfl (by decide) rfl ?_
            refine x_goto (tgt := 4) X dX9_readColours_61 (by decide) ?_
            exact x_sub X [3, 4, 1, 0] rfl (ih4 x1 (x2 ||| r53) (x3 + 1) p0_begun_25 p0_position_25 h)
          · have h := h.2 hc
            exact x_sub X [] rfl (k47 p0_begun_25 p0_position_25 h)
      have k64 : ∀ (x2 : Int32) (p0_begun : Int32) (p0_position : Int32), F_X9_readColours_64 p0_length p0_bytes post x2 p0_begun p0_position → G 0 0 64 [(2, .int x2)] [] [(h_p0, .inr (7, [.ref h_p0_bytes, .int p0_length, .int p0_position, .int p0_begun, .int p0_wrong])), (h_p0_bytes, aI T 400 p0_bytes)] := by
        intro x2 p0_begun p0_position h
        unfold F_X9_readColours_64 at h
        refine x_iload_n X dX9_readColours_64 0 rfl ?_
        exact hret _ _ _ _ dX9_readColours_65 rfl ⟨p0_begun, p0_position, rfl, h⟩
      refine x_iload_n X dX9_readColours_4 3 rfl ?_
      refine x_iload_n X dX9_readColours_5 1 rfl ?_
      refine x_icmp_gt (tgt := 64) X dX9_readColours_6 (by decide) (fun hc => ?_) (fun hc => ?_)
      · have h := h.1 hc
        exact x_sub X [2] rfl (k64 x2 p0_begun p0_position h)
      · have h := h.2 hc
        refine x_iload_n X dX9_readColours_9 3 rfl ?_
        refine x_if_eq (tgt := 20) X dX9_readColours_10 (by decide) (fun hc => ?_) (fun hc => ?_)
        · have h := h.1 hc
          exact x_sub X [0, 1, 2, 3] rfl (k20 x1 x2 x3 p0_begun p0_position h)
        · have h := h.2 hc
          refine x_aload_n X dX9_readColours_13 0 rfl ?_
          refine x_callVI (av := []) (st := []) (wr := []) X (c_X8_digitComes l D T h_p0 h_p0_bytes p0_begun p0_length p0_position p0_wrong p0_bytes _ h) yk_X8_digitComes tw_856 dX9_readColours_14 0 rfl rfl [0, 1] [] rfl rfl rfl rfl (by decide) rfl rfl (Nat.le_of_ble_eq_true rfl) (Nat.le_of_ble_eq_true rfl) (Nat.le_of_ble_eq_true rfl) (Nat.zero_le _) (Nat.zero_le _) (fun r14 w1 hw => ?_)
          obtain ⟨p0_begun_14, p0_position_14, rfl, h⟩ := hw
          refine x_perm (ws2 := [(h_p0, .inr (7, [.ref h_p0_bytes, .int p0_length, .int p0_position_14, .int p0_begun_14, .int p0_wrong])), (h_p0_bytes, aI T 400 p0_bytes)]) X [0, 1] rfl rfl ?_
          refine x_if_eq (tgt := 64) X dX9_readColours_17 (by decide) (fun hc => ?_) (fun hc => ?_)
          · have h := h.1 hc
            exact x_sub X [2] rfl (k64 x2 p0_begun_14 p0_position_14 h)
          · have h := h.2 hc
            exact x_sub X [0, 1, 2, 3] rfl (k20 x1 x2 x3 p0_begun_14 p0_position_14 h)
  refine x_iconst (v := 0) X dX9_readColours_0 (by decide) ?_
  refine x_istore_n (lv' := [(2, .int (0 : Int32)), (0, .ref h_p0), (1, .int p1)]) X dX9_readColours_1 (by decide) rfl ?_
  refine x_iconst (v := 0) X dX9_readColours_2 (by decide) ?_
  refine x_istore_n (lv' := [(3, .int (0 : Int32)), (2, .int (0 : Int32)), (0, .ref h_p0), (1, .int p1)]) X dX9_readColours_3 (by decide) rfl ?_
  obtain ⟨n4, h⟩ := h
  exact x_sub X [2, 3, 1, 0] rfl (k4 n4 p1 (0 : Int32) (0 : Int32) p0_begun p0_position h)
