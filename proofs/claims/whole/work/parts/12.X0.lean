/-! OrderlyNets$Code: decode rows (printed), and each method kept by its F -/
theorem dX0_bits_0 : decode cX0_bits 0 = .ok (.iload_n 0, 1) := by decide +kernel
theorem dX0_bits_1 : decode cX0_bits 1 = .ok (.iload_n 0, 1) := by decide +kernel
theorem dX0_bits_2 : decode cX0_bits 2 = .ok (.iconst 1, 1) := by decide +kernel
theorem dX0_bits_3 : decode cX0_bits 3 = .ok (.iadd, 1) := by decide +kernel
theorem dX0_bits_4 : decode cX0_bits 4 = .ok (.imul, 1) := by decide +kernel
theorem dX0_bits_5 : decode cX0_bits 5 = .ok (.iconst 2, 1) := by decide +kernel
theorem dX0_bits_6 : decode cX0_bits 6 = .ok (.idiv, 1) := by decide +kernel
theorem dX0_bits_7 : decode cX0_bits 7 = .ok (.ireturn, 1) := by decide +kernel
set_option maxHeartbeats 4000000 in
set_option maxRecDepth 100000 in
theorem c_X0_bits (l : Launch) (D : eD) (T : Nat → ClassId)  (p0 : Int32) (post : Int32 → Prop) (h : F_X0_bits p0 post) : cI l D T yX0_bits cX0_bits 1 (some .int) 0 0 0 0 [.int p0] [] (fun r w1 => w1 = [] ∧ post r ) := by
  refine xI_of (ty := .int) (by decide +kernel) (Nat.le_of_ble_eq_true rfl) rfl ?_
  intro G X hret
  change G 0 0 0 [(0, .int p0)] [] []
  unfold F_X0_bits at h
  refine x_iload_n X dX0_bits_0 0 rfl ?_
  refine x_iload_n X dX0_bits_1 0 rfl ?_
  refine x_iconst (v := 1) X dX0_bits_2 (by decide) ?_
  refine x_iadd X dX0_bits_3 ?_
  refine x_imul X dX0_bits_4 ?_
  refine x_iconst (v := 2) X dX0_bits_5 (by decide) ?_
  refine x_idiv X dX0_bits_6 (by decide) ?_
  exact hret _ _ _ _ dX0_bits_7 rfl ⟨rfl, h⟩
theorem dX0_dark_0 : decode cX0_dark 0 = .ok (.iconst 1, 1) := by decide +kernel
theorem dX0_dark_1 : decode cX0_dark 1 = .ok (.iload_n 0, 1) := by decide +kernel
theorem dX0_dark_2 : decode cX0_dark 2 = .ok (.invokestatic 7, 3) := by decide +kernel
theorem dX0_dark_5 : decode cX0_dark 5 = .ok (.iconst 1, 1) := by decide +kernel
theorem dX0_dark_6 : decode cX0_dark 6 = .ok (.isub, 1) := by decide +kernel
theorem dX0_dark_7 : decode cX0_dark 7 = .ok (.iload_n 1, 1) := by decide +kernel
theorem dX0_dark_8 : decode cX0_dark 8 = .ok (.invokestatic 7, 3) := by decide +kernel
theorem dX0_dark_11 : decode cX0_dark 11 = .ok (.isub, 1) := by decide +kernel
theorem dX0_dark_12 : decode cX0_dark 12 = .ok (.ishl, 1) := by decide +kernel
theorem dX0_dark_13 : decode cX0_dark 13 = .ok (.ireturn, 1) := by decide +kernel
set_option maxHeartbeats 4000000 in
set_option maxRecDepth 100000 in
theorem c_X0_dark (l : Launch) (D : eD) (T : Nat → ClassId)  (p0 : Int32) (p1 : Int32) (post : Int32 → Prop) (h : F_X0_dark p0 p1 post) : cI l D T yX0_dark cX0_dark 2 (some .int) 1 20 0 0 [.int p0, .int p1] [] (fun r w1 => w1 = [] ∧ post r ) := by
  refine xI_of (ty := .int) (by decide +kernel) (Nat.le_of_ble_eq_true rfl) rfl ?_
  intro G X hret
  change G 0 0 0 [(0, .int p0), (1, .int p1)] [] []
  unfold F_X0_dark at h
  refine x_iconst (v := 1) X dX0_dark_0 (by decide) ?_
  refine x_iload_n X dX0_dark_1 0 rfl ?_
  refine x_callSI (av := [.int p0]) (st := [.int (1 : Int32)]) (wr := []) X (c_X0_bits l D T  p0 _ h) yk_X0_bits tw_429 dX0_dark_2 [] [] rfl rfl rfl rfl (by decide) rfl rfl (Nat.le_of_ble_eq_true rfl) (Nat.le_of_ble_eq_true rfl) (Nat.le_of_ble_eq_true rfl) (Nat.zero_le _) (Nat.zero_le _) (fun r2 w1 hw => ?_)
  obtain ⟨rfl, h⟩ := hw
  refine x_iconst (v := 1) X dX0_dark_5 (by decide) ?_
  refine x_isub X dX0_dark_6 ?_
  refine x_iload_n X dX0_dark_7 1 rfl ?_
  refine x_callSI (av := [.int p1]) (st := [.int (r2 - (1 : Int32)), .int (1 : Int32)]) (wr := []) X (c_X0_bits l D T  p1 _ h) yk_X0_bits tw_429 dX0_dark_8 [] [] rfl rfl rfl rfl (by decide) rfl rfl (Nat.le_of_ble_eq_true rfl) (Nat.le_of_ble_eq_true rfl) (Nat.le_of_ble_eq_true rfl) (Nat.zero_le _) (Nat.zero_le _) (fun r8 w1 hw => ?_)
  obtain ⟨rfl, h⟩ := hw
  refine x_isub X dX0_dark_11 ?_
  refine x_ishl X dX0_dark_12 ?_
  exact hret _ _ _ _ dX0_dark_13 rfl ⟨rfl, h⟩
theorem dX0_edge_0 : decode cX0_edge 0 = .ok (.iconst 1, 1) := by decide +kernel
theorem dX0_edge_1 : decode cX0_edge 1 = .ok (.iload_n 0, 1) := by decide +kernel
theorem dX0_edge_2 : decode cX0_edge 2 = .ok (.invokestatic 7, 3) := by decide +kernel
theorem dX0_edge_5 : decode cX0_edge 5 = .ok (.iconst 2, 1) := by decide +kernel
theorem dX0_edge_6 : decode cX0_edge 6 = .ok (.isub, 1) := by decide +kernel
theorem dX0_edge_7 : decode cX0_edge 7 = .ok (.iload_n 1, 1) := by decide +kernel
theorem dX0_edge_8 : decode cX0_edge 8 = .ok (.iload_n 2, 1) := by decide +kernel
theorem dX0_edge_9 : decode cX0_edge 9 = .ok (.invokestatic 13, 3) := by decide +kernel
theorem dX0_edge_12 : decode cX0_edge 12 = .ok (.invokestatic 7, 3) := by decide +kernel
theorem dX0_edge_15 : decode cX0_edge 15 = .ok (.isub, 1) := by decide +kernel
theorem dX0_edge_16 : decode cX0_edge 16 = .ok (.iload_n 1, 1) := by decide +kernel
theorem dX0_edge_17 : decode cX0_edge 17 = .ok (.iload_n 2, 1) := by decide +kernel
theorem dX0_edge_18 : decode cX0_edge 18 = .ok (.invokestatic 19, 3) := by decide +kernel
theorem dX0_edge_21 : decode cX0_edge 21 = .ok (.isub, 1) := by decide +kernel
theorem dX0_edge_22 : decode cX0_edge 22 = .ok (.ishl, 1) := by decide +kernel
theorem dX0_edge_23 : decode cX0_edge 23 = .ok (.ireturn, 1) := by decide +kernel
set_option maxHeartbeats 4000000 in
set_option maxRecDepth 100000 in
theorem c_X0_edge (l : Launch) (D : eD) (T : Nat → ClassId)  (p0 : Int32) (p1 : Int32) (p2 : Int32) (post : Int32 → Prop) (h : F_X0_edge p0 p1 p2 post) : cI l D T yX0_edge cX0_edge 3 (some .int) 1 50 0 0 [.int p0, .int p1, .int p2] [] (fun r w1 => w1 = [] ∧ post r ) := by
  refine xI_of (ty := .int) (by decide +kernel) (Nat.le_of_ble_eq_true rfl) rfl ?_
  intro G X hret
  change G 0 0 0 [(0, .int p0), (1, .int p1), (2, .int p2)] [] []
  unfold F_X0_edge at h
  refine x_iconst (v := 1) X dX0_edge_0 (by decide) ?_
  refine x_iload_n X dX0_edge_1 0 rfl ?_
  refine x_callSI (av := [.int p0]) (st := [.int (1 : Int32)]) (wr := []) X (c_X0_bits l D T  p0 _ h) yk_X0_bits tw_429 dX0_edge_2 [] [] rfl rfl rfl rfl (by decide) rfl rfl (Nat.le_of_ble_eq_true rfl) (Nat.le_of_ble_eq_true rfl) (Nat.le_of_ble_eq_true rfl) (Nat.zero_le _) (Nat.zero_le _) (fun r2 w1 hw => ?_)
  obtain ⟨rfl, h⟩ := hw
  refine x_iconst (v := 2) X dX0_edge_5 (by decide) ?_
  refine x_isub X dX0_edge_6 ?_
  refine x_iload_n X dX0_edge_7 1 rfl ?_
  refine x_iload_n X dX0_edge_8 2 rfl ?_
  refine x_mmax X tw_447 tw_404 tw_12 tw_405 (Nat.le_of_ble_eq_true rfl) (Nat.le_of_ble_eq_true rfl) (Nat.le_of_ble_eq_true rfl) (Nat.zero_le _) (Nat.zero_le _) dX0_edge_9 ?_
  refine x_callSI (av := [.int (if p1 < p2 then p2 else p1)]) (st := [.int (r2 - (2 : Int32)), .int (1 : Int32)]) (wr := []) X (c_X0_bits l D T  (if p1 < p2 then p2 else p1) _ h) yk_X0_bits tw_429 dX0_edge_12 [] [] rfl rfl rfl rfl (by decide) rfl rfl (Nat.le_of_ble_eq_true rfl) (Nat.le_of_ble_eq_true rfl) (Nat.le_of_ble_eq_true rfl) (Nat.zero_le _) (Nat.zero_le _) (fun r12 w1 hw => ?_)
  obtain ⟨rfl, h⟩ := hw
  refine x_isub X dX0_edge_15 ?_
  refine x_iload_n X dX0_edge_16 1 rfl ?_
  refine x_iload_n X dX0_edge_17 2 rfl ?_
  refine x_mmin X tw_448 tw_353 tw_12 tw_354 (Nat.le_of_ble_eq_true rfl) (Nat.le_of_ble_eq_true rfl) (Nat.le_of_ble_eq_true rfl) (Nat.zero_le _) (Nat.zero_le _) dX0_edge_18 ?_
  refine x_isub X dX0_edge_21 ?_
  refine x_ishl X dX0_edge_22 ?_
  exact hret _ _ _ _ dX0_edge_23 rfl ⟨rfl, h⟩
theorem dX0_allColours_0 : decode cX0_allColours 0 = .ok (.iconst 0, 1) := by decide +kernel
theorem dX0_allColours_1 : decode cX0_allColours 1 = .ok (.istore_n 1, 1) := by decide +kernel
theorem dX0_allColours_2 : decode cX0_allColours 2 = .ok (.iconst 0, 1) := by decide +kernel
theorem dX0_allColours_3 : decode cX0_allColours 3 = .ok (.istore_n 2, 1) := by decide +kernel
theorem dX0_allColours_4 : decode cX0_allColours 4 = .ok (.iload_n 2, 1) := by decide +kernel
theorem dX0_allColours_5 : decode cX0_allColours 5 = .ok (.iload_n 0, 1) := by decide +kernel
theorem dX0_allColours_6 : decode cX0_allColours 6 = .ok (.if_icmp .ge 17, 3) := by decide +kernel
theorem dX0_allColours_9 : decode cX0_allColours 9 = .ok (.iload_n 1, 1) := by decide +kernel
theorem dX0_allColours_10 : decode cX0_allColours 10 = .ok (.iload_n 0, 1) := by decide +kernel
theorem dX0_allColours_11 : decode cX0_allColours 11 = .ok (.iload_n 2, 1) := by decide +kernel
theorem dX0_allColours_12 : decode cX0_allColours 12 = .ok (.invokestatic 22, 3) := by decide +kernel
theorem dX0_allColours_15 : decode cX0_allColours 15 = .ok (.ior, 1) := by decide +kernel
theorem dX0_allColours_16 : decode cX0_allColours 16 = .ok (.istore_n 1, 1) := by decide +kernel
theorem dX0_allColours_17 : decode cX0_allColours 17 = .ok (.iinc 2 1, 3) := by decide +kernel
theorem dX0_allColours_20 : decode cX0_allColours 20 = .ok (.goto (-16), 3) := by decide +kernel
theorem dX0_allColours_23 : decode cX0_allColours 23 = .ok (.iload_n 1, 1) := by decide +kernel
theorem dX0_allColours_24 : decode cX0_allColours 24 = .ok (.ireturn, 1) := by decide +kernel
set_option maxHeartbeats 4000000 in
set_option maxRecDepth 100000 in
theorem c_X0_allColours (l : Launch) (D : eD) (T : Nat → ClassId)  (p0 : Int32) (post : Int32 → Prop) (h : F_X0_allColours p0 post) : cI l D T yX0_allColours cX0_allColours 3 (some .int) 2 41 0 0 [.int p0] [] (fun r w1 => w1 = [] ∧ post r ) := by
  refine xI_of (ty := .int) (by decide +kernel) (Nat.le_of_ble_eq_true rfl) rfl ?_
  intro G X hret
  change G 0 0 0 [(0, .int p0)] [] []
  unfold F_X0_allColours at h
  have k4 : ∀ (n4 : Nat) (x0 : Int32) (x1 : Int32) (x2 : Int32), F_X0_allColours_4 post n4 x0 x1 x2 → G 0 0 4 [(0, .int x0), (1, .int x1), (2, .int x2)] [] [] := by
    intro n4
    induction n4 with
    | zero => intro x0 x1 x2 h; exact h.elim
    | succ n4 ih4 =>
      intro x0 x1 x2 h
      rw [F_X0_allColours_4] at h
      refine x_iload_n X dX0_allColours_4 2 rfl ?_
      refine x_iload_n X dX0_allColours_5 0 rfl ?_
      refine x_icmp_ge (tgt := 23) X dX0_allColours_6 (by decide) (fun hc => ?_) (fun hc => ?_)
      · have h := h.1 hc
        refine x_iload_n X dX0_allColours_23 1 rfl ?_
        exact hret _ _ _ _ dX0_allColours_24 rfl ⟨rfl, h⟩
      · have h := h.2 hc
        refine x_iload_n X dX0_allColours_9 1 rfl ?_
        refine x_iload_n X dX0_allColours_10 0 rfl ?_
        refine x_iload_n X dX0_allColours_11 2 rfl ?_
        refine x_callSI (av := [.int x0, .int x2]) (st := [.int x1]) (wr := []) X (c_X0_dark l D T  x0 x2 _ h) yk_X0_dark tw_433 dX0_allColours_12 [] [] rfl rfl rfl rfl (by decide) rfl rfl (Nat.le_of_ble_eq_true rfl) (Nat.le_of_ble_eq_true rfl) (Nat.le_of_ble_eq_true rfl) (Nat.zero_le _) (Nat.zero_le _) (fun r12 w1 hw => ?_)
        obtain ⟨rfl, h⟩ := hw
        refine x_ior X dX0_allColours_15 ?_
        refine x_istore_n (lv' := [(1, .int (x1 ||| r12)), (0, .int x0), (2, .int x2)]) X dX0_allColours_16 (by decide) rfl ?_
        refine x_iinc (v := (x2 + 1)) (lv' := [(2, .int (x2 + 1)), (1, .int (x1 ||| r12)), (0, .int x0)]) X dX0_allColours_17 2 rfl rfl (by decide) rfl ?_
        refine x_goto (tgt := 4) X dX0_allColours_20 (by decide) ?_
        exact x_sub X [2, 1, 0] rfl (ih4 x0 (x1 ||| r12) (x2 + 1) h)
  refine x_iconst (v := 0) X dX0_allColours_0 (by decide) ?_
  refine x_istore_n (lv' := [(1, .int (0 : Int32)), (0, .int p0)]) X dX0_allColours_1 (by decide) rfl ?_
  refine x_iconst (v := 0) X dX0_allColours_2 (by decide) ?_
  refine x_istore_n (lv' := [(2, .int (0 : Int32)), (1, .int (0 : Int32)), (0, .int p0)]) X dX0_allColours_3 (by decide) rfl ?_
  obtain ⟨n4, h⟩ := h
  exact x_sub X [2, 1, 0] rfl (k4 n4 p0 (0 : Int32) (0 : Int32) h)
theorem dX0_allEdges_0 : decode cX0_allEdges 0 = .ok (.iconst 1, 1) := by decide +kernel
theorem dX0_allEdges_1 : decode cX0_allEdges 1 = .ok (.iload_n 0, 1) := by decide +kernel
theorem dX0_allEdges_2 : decode cX0_allEdges 2 = .ok (.invokestatic 7, 3) := by decide +kernel
theorem dX0_allEdges_5 : decode cX0_allEdges 5 = .ok (.ishl, 1) := by decide +kernel
theorem dX0_allEdges_6 : decode cX0_allEdges 6 = .ok (.iconst 1, 1) := by decide +kernel
theorem dX0_allEdges_7 : decode cX0_allEdges 7 = .ok (.isub, 1) := by decide +kernel
theorem dX0_allEdges_8 : decode cX0_allEdges 8 = .ok (.iload_n 0, 1) := by decide +kernel
theorem dX0_allEdges_9 : decode cX0_allEdges 9 = .ok (.invokestatic 25, 3) := by decide +kernel
theorem dX0_allEdges_12 : decode cX0_allEdges 12 = .ok (.ixor, 1) := by decide +kernel
theorem dX0_allEdges_13 : decode cX0_allEdges 13 = .ok (.ireturn, 1) := by decide +kernel
set_option maxHeartbeats 4000000 in
set_option maxRecDepth 100000 in
theorem c_X0_allEdges (l : Launch) (D : eD) (T : Nat → ClassId)  (p0 : Int32) (post : Int32 → Prop) (h : F_X0_allEdges p0 post) : cI l D T yX0_allEdges cX0_allEdges 1 (some .int) 3 63 0 0 [.int p0] [] (fun r w1 => w1 = [] ∧ post r ) := by
  refine xI_of (ty := .int) (by decide +kernel) (Nat.le_of_ble_eq_true rfl) rfl ?_
  intro G X hret
  change G 0 0 0 [(0, .int p0)] [] []
  unfold F_X0_allEdges at h
  refine x_iconst (v := 1) X dX0_allEdges_0 (by decide) ?_
  refine x_iload_n X dX0_allEdges_1 0 rfl ?_
  refine x_callSI (av := [.int p0]) (st := [.int (1 : Int32)]) (wr := []) X (c_X0_bits l D T  p0 _ h) yk_X0_bits tw_429 dX0_allEdges_2 [] [] rfl rfl rfl rfl (by decide) rfl rfl (Nat.le_of_ble_eq_true rfl) (Nat.le_of_ble_eq_true rfl) (Nat.le_of_ble_eq_true rfl) (Nat.zero_le _) (Nat.zero_le _) (fun r2 w1 hw => ?_)
  obtain ⟨rfl, h⟩ := hw
  refine x_ishl X dX0_allEdges_5 ?_
  refine x_iconst (v := 1) X dX0_allEdges_6 (by decide) ?_
  refine x_isub X dX0_allEdges_7 ?_
  refine x_iload_n X dX0_allEdges_8 0 rfl ?_
  refine x_callSI (av := [.int p0]) (st := [.int (((1 : Int32) <<< (r2 &&& 31)) - (1 : Int32))]) (wr := []) X (c_X0_allColours l D T  p0 _ h) yk_X0_allColours tw_430 dX0_allEdges_9 [] [] rfl rfl rfl rfl (by decide) rfl rfl (Nat.le_of_ble_eq_true rfl) (Nat.le_of_ble_eq_true rfl) (Nat.le_of_ble_eq_true rfl) (Nat.zero_le _) (Nat.zero_le _) (fun r9 w1 hw => ?_)
  obtain ⟨rfl, h⟩ := hw
  refine x_ixor X dX0_allEdges_12 ?_
  exact hret _ _ _ _ dX0_allEdges_13 rfl ⟨rfl, h⟩
theorem dX0_areJoined_0 : decode cX0_areJoined 0 = .ok (.iload_n 2, 1) := by decide +kernel
theorem dX0_areJoined_1 : decode cX0_areJoined 1 = .ok (.iload_n 3, 1) := by decide +kernel
theorem dX0_areJoined_2 : decode cX0_areJoined 2 = .ok (.if_icmp .eq 18, 3) := by decide +kernel
theorem dX0_areJoined_5 : decode cX0_areJoined 5 = .ok (.iload_n 1, 1) := by decide +kernel
theorem dX0_areJoined_6 : decode cX0_areJoined 6 = .ok (.iload_n 0, 1) := by decide +kernel
theorem dX0_areJoined_7 : decode cX0_areJoined 7 = .ok (.iload_n 2, 1) := by decide +kernel
theorem dX0_areJoined_8 : decode cX0_areJoined 8 = .ok (.iload_n 3, 1) := by decide +kernel
theorem dX0_areJoined_9 : decode cX0_areJoined 9 = .ok (.invokestatic 28, 3) := by decide +kernel
theorem dX0_areJoined_12 : decode cX0_areJoined 12 = .ok (.iand, 1) := by decide +kernel
theorem dX0_areJoined_13 : decode cX0_areJoined 13 = .ok (.ifCond .eq 7, 3) := by decide +kernel
theorem dX0_areJoined_16 : decode cX0_areJoined 16 = .ok (.iconst 1, 1) := by decide +kernel
theorem dX0_areJoined_17 : decode cX0_areJoined 17 = .ok (.goto 4, 3) := by decide +kernel
theorem dX0_areJoined_20 : decode cX0_areJoined 20 = .ok (.iconst 0, 1) := by decide +kernel
theorem dX0_areJoined_21 : decode cX0_areJoined 21 = .ok (.ireturn, 1) := by decide +kernel
set_option maxHeartbeats 4000000 in
set_option maxRecDepth 100000 in
theorem c_X0_areJoined (l : Launch) (D : eD) (T : Nat → ClassId)  (p0 : Int32) (p1 : Int32) (p2 : Int32) (p3 : Int32) (post : Int32 → Prop) (h : F_X0_areJoined p0 p1 p2 p3 post) : cI l D T yX0_areJoined cX0_areJoined 4 (some .boolean) 2 72 0 0 [.int p0, .int p1, .int p2, .int p3] [] (fun r w1 => w1 = [] ∧ post r ) := by
  refine xI_of (ty := .boolean) (by decide +kernel) (Nat.le_of_ble_eq_true rfl) rfl ?_
  intro G X hret
  change G 0 0 0 [(0, .int p0), (1, .int p1), (2, .int p2), (3, .int p3)] [] []
  unfold F_X0_areJoined at h
  have k21 : ∀ (s0 : Int32), F_X0_areJoined_21 post s0 → G 0 0 21 [] [.int s0] [] := by
    intro s0 h
    unfold F_X0_areJoined_21 at h
    obtain ⟨hz, h⟩ := h
    exact hret _ _ _ _ dX0_areJoined_21 (e_nz hz) ⟨rfl, h⟩
  have k20 : F_X0_areJoined_20 post (fun s0 => F_X0_areJoined_21 post s0) → G 0 0 20 [] [] [] := by
    intro  h
    unfold F_X0_areJoined_20 at h
    refine x_iconst (v := 0) X dX0_areJoined_20 (by decide) ?_
    exact x_sub X [] rfl (k21 (0 : Int32) h)
  refine x_iload_n X dX0_areJoined_0 2 rfl ?_
  refine x_iload_n X dX0_areJoined_1 3 rfl ?_
  refine x_icmp_eq (tgt := 20) X dX0_areJoined_2 (by decide) (fun hc => ?_) (fun hc => ?_)
  · have h := h.1 hc
    exact x_sub X [] rfl (k20 h)
  · have h := h.2 hc
    refine x_iload_n X dX0_areJoined_5 1 rfl ?_
    refine x_iload_n X dX0_areJoined_6 0 rfl ?_
    refine x_iload_n X dX0_areJoined_7 2 rfl ?_
    refine x_iload_n X dX0_areJoined_8 3 rfl ?_
    refine x_callSI (av := [.int p0, .int p2, .int p3]) (st := [.int p1]) (wr := []) X (c_X0_edge l D T  p0 p2 p3 _ h) yk_X0_edge tw_444 dX0_areJoined_9 [] [] rfl rfl rfl rfl (by decide) rfl rfl (Nat.le_of_ble_eq_true rfl) (Nat.le_of_ble_eq_true rfl) (Nat.le_of_ble_eq_true rfl) (Nat.zero_le _) (Nat.zero_le _) (fun r9 w1 hw => ?_)
    obtain ⟨rfl, h⟩ := hw
    refine x_iand X dX0_areJoined_12 ?_
    refine x_if_eq (tgt := 20) X dX0_areJoined_13 (by decide) (fun hc => ?_) (fun hc => ?_)
    · have h := h.1 hc
      exact x_sub X [] rfl (k20 h)
    · have h := h.2 hc
      refine x_iconst (v := 1) X dX0_areJoined_16 (by decide) ?_
      refine x_goto (tgt := 21) X dX0_areJoined_17 (by decide) ?_
      exact x_sub X [] rfl (k21 (1 : Int32) h)
theorem dX0_edges_0 : decode cX0_edges 0 = .ok (.iload_n 1, 1) := by decide +kernel
theorem dX0_edges_1 : decode cX0_edges 1 = .ok (.iload_n 0, 1) := by decide +kernel
theorem dX0_edges_2 : decode cX0_edges 2 = .ok (.invokestatic 32, 3) := by decide +kernel
theorem dX0_edges_5 : decode cX0_edges 5 = .ok (.iand, 1) := by decide +kernel
theorem dX0_edges_6 : decode cX0_edges 6 = .ok (.invokestatic 35, 3) := by decide +kernel
theorem dX0_edges_9 : decode cX0_edges 9 = .ok (.ireturn, 1) := by decide +kernel
set_option maxHeartbeats 4000000 in
set_option maxRecDepth 100000 in
theorem c_X0_edges (l : Launch) (D : eD) (T : Nat → ClassId)  (p0 : Int32) (p1 : Int32) (post : Int32 → Prop) (h : F_X0_edges p0 p1 post) : cI l D T yX0_edges cX0_edges 2 (some .int) 4 83 0 0 [.int p0, .int p1] [] (fun r w1 => w1 = [] ∧ post r ) := by
  refine xI_of (ty := .int) (by decide +kernel) (Nat.le_of_ble_eq_true rfl) rfl ?_
  intro G X hret
  change G 0 0 0 [(0, .int p0), (1, .int p1)] [] []
  unfold F_X0_edges at h
  refine x_iload_n X dX0_edges_0 1 rfl ?_
  refine x_iload_n X dX0_edges_1 0 rfl ?_
  refine x_callSI (av := [.int p0]) (st := [.int p1]) (wr := []) X (c_X0_allEdges l D T  p0 _ h) yk_X0_allEdges tw_539 dX0_edges_2 [] [] rfl rfl rfl rfl (by decide) rfl rfl (Nat.le_of_ble_eq_true rfl) (Nat.le_of_ble_eq_true rfl) (Nat.le_of_ble_eq_true rfl) (Nat.zero_le _) (Nat.zero_le _) (fun r2 w1 hw => ?_)
  obtain ⟨rfl, h⟩ := hw
  refine x_iand X dX0_edges_5 ?_
  refine x_callSI (av := [.int (p1 &&& r2)]) (st := []) (wr := []) X (c_J6_bitCount_0f7a4 l D T  (p1 &&& r2) _ h) yk_J6_bitCount_0f7a4 tw_540 dX0_edges_6 [] [] rfl rfl rfl rfl (by decide) rfl rfl (Nat.le_of_ble_eq_true rfl) (Nat.le_of_ble_eq_true rfl) (Nat.le_of_ble_eq_true rfl) (Nat.zero_le _) (Nat.zero_le _) (fun r6 w1 hw => ?_)
  obtain ⟨rfl, h⟩ := hw
  exact hret _ _ _ _ dX0_edges_9 rfl ⟨rfl, h⟩
theorem dX0_darkNodes_0 : decode cX0_darkNodes 0 = .ok (.iload_n 1, 1) := by decide +kernel
theorem dX0_darkNodes_1 : decode cX0_darkNodes 1 = .ok (.iload_n 0, 1) := by decide +kernel
theorem dX0_darkNodes_2 : decode cX0_darkNodes 2 = .ok (.invokestatic 25, 3) := by decide +kernel
theorem dX0_darkNodes_5 : decode cX0_darkNodes 5 = .ok (.iand, 1) := by decide +kernel
theorem dX0_darkNodes_6 : decode cX0_darkNodes 6 = .ok (.invokestatic 35, 3) := by decide +kernel
theorem dX0_darkNodes_9 : decode cX0_darkNodes 9 = .ok (.ireturn, 1) := by decide +kernel
set_option maxHeartbeats 4000000 in
set_option maxRecDepth 100000 in
theorem c_X0_darkNodes (l : Launch) (D : eD) (T : Nat → ClassId)  (p0 : Int32) (p1 : Int32) (post : Int32 → Prop) (h : F_X0_darkNodes p0 p1 post) : cI l D T yX0_darkNodes cX0_darkNodes 2 (some .int) 3 63 0 0 [.int p0, .int p1] [] (fun r w1 => w1 = [] ∧ post r ) := by
  refine xI_of (ty := .int) (by decide +kernel) (Nat.le_of_ble_eq_true rfl) rfl ?_
  intro G X hret
  change G 0 0 0 [(0, .int p0), (1, .int p1)] [] []
  unfold F_X0_darkNodes at h
  refine x_iload_n X dX0_darkNodes_0 1 rfl ?_
  refine x_iload_n X dX0_darkNodes_1 0 rfl ?_
  refine x_callSI (av := [.int p0]) (st := [.int p1]) (wr := []) X (c_X0_allColours l D T  p0 _ h) yk_X0_allColours tw_430 dX0_darkNodes_2 [] [] rfl rfl rfl rfl (by decide) rfl rfl (Nat.le_of_ble_eq_true rfl) (Nat.le_of_ble_eq_true rfl) (Nat.le_of_ble_eq_true rfl) (Nat.zero_le _) (Nat.zero_le _) (fun r2 w1 hw => ?_)
  obtain ⟨rfl, h⟩ := hw
  refine x_iand X dX0_darkNodes_5 ?_
  refine x_callSI (av := [.int (p1 &&& r2)]) (st := []) (wr := []) X (c_J6_bitCount_0f7a4 l D T  (p1 &&& r2) _ h) yk_J6_bitCount_0f7a4 tw_540 dX0_darkNodes_6 [] [] rfl rfl rfl rfl (by decide) rfl rfl (Nat.le_of_ble_eq_true rfl) (Nat.le_of_ble_eq_true rfl) (Nat.le_of_ble_eq_true rfl) (Nat.zero_le _) (Nat.zero_le _) (fun r6 w1 hw => ?_)
  obtain ⟨rfl, h⟩ := hw
  exact hret _ _ _ _ dX0_darkNodes_9 rfl ⟨rfl, h⟩
theorem dX0_grow_0 : decode cX0_grow 0 = .ok (.iload_n 1, 1) := by decide +kernel
theorem dX0_grow_1 : decode cX0_grow 1 = .ok (.iconst 1, 1) := by decide +kernel
theorem dX0_grow_2 : decode cX0_grow 2 = .ok (.ishl, 1) := by decide +kernel
theorem dX0_grow_3 : decode cX0_grow 3 = .ok (.iload_n 3, 1) := by decide +kernel
theorem dX0_grow_4 : decode cX0_grow 4 = .ok (.ifCond .eq 7, 3) := by decide +kernel
theorem dX0_grow_7 : decode cX0_grow 7 = .ok (.iconst 1, 1) := by decide +kernel
theorem dX0_grow_8 : decode cX0_grow 8 = .ok (.goto 4, 3) := by decide +kernel
theorem dX0_grow_11 : decode cX0_grow 11 = .ok (.iconst 0, 1) := by decide +kernel
theorem dX0_grow_12 : decode cX0_grow 12 = .ok (.ior, 1) := by decide +kernel
theorem dX0_grow_13 : decode cX0_grow 13 = .ok (.istore 4, 2) := by decide +kernel
theorem dX0_grow_15 : decode cX0_grow 15 = .ok (.iconst 0, 1) := by decide +kernel
theorem dX0_grow_16 : decode cX0_grow 16 = .ok (.istore 5, 2) := by decide +kernel
theorem dX0_grow_18 : decode cX0_grow 18 = .ok (.iload 5, 2) := by decide +kernel
theorem dX0_grow_20 : decode cX0_grow 20 = .ok (.iload_n 0, 1) := by decide +kernel
theorem dX0_grow_21 : decode cX0_grow 21 = .ok (.if_icmp .ge 22, 3) := by decide +kernel
theorem dX0_grow_24 : decode cX0_grow 24 = .ok (.iload 4, 2) := by decide +kernel
theorem dX0_grow_26 : decode cX0_grow 26 = .ok (.iconst 1, 1) := by decide +kernel
theorem dX0_grow_27 : decode cX0_grow 27 = .ok (.ishl, 1) := by decide +kernel
theorem dX0_grow_28 : decode cX0_grow 28 = .ok (.iload_n 2, 1) := by decide +kernel
theorem dX0_grow_29 : decode cX0_grow 29 = .ok (.iload 5, 2) := by decide +kernel
theorem dX0_grow_31 : decode cX0_grow 31 = .ok (.ishr, 1) := by decide +kernel
theorem dX0_grow_32 : decode cX0_grow 32 = .ok (.iconst 1, 1) := by decide +kernel
theorem dX0_grow_33 : decode cX0_grow 33 = .ok (.iand, 1) := by decide +kernel
theorem dX0_grow_34 : decode cX0_grow 34 = .ok (.ior, 1) := by decide +kernel
theorem dX0_grow_35 : decode cX0_grow 35 = .ok (.istore 4, 2) := by decide +kernel
theorem dX0_grow_37 : decode cX0_grow 37 = .ok (.iinc 5 1, 3) := by decide +kernel
theorem dX0_grow_40 : decode cX0_grow 40 = .ok (.goto (-22), 3) := by decide +kernel
theorem dX0_grow_43 : decode cX0_grow 43 = .ok (.iload 4, 2) := by decide +kernel
theorem dX0_grow_45 : decode cX0_grow 45 = .ok (.ireturn, 1) := by decide +kernel
set_option maxHeartbeats 4000000 in
set_option maxRecDepth 100000 in
theorem c_X0_grow (l : Launch) (D : eD) (T : Nat → ClassId)  (p0 : Int32) (p1 : Int32) (p2 : Int32) (p3 : Int32) (post : Int32 → Prop) (h : F_X0_grow p0 p1 p2 p3 post) : cI l D T yX0_grow cX0_grow 6 (some .int) 0 0 0 0 [.int p0, .int p1, .int p2, .int p3] [] (fun r w1 => w1 = [] ∧ post r ) := by
  refine xI_of (ty := .int) (by decide +kernel) (Nat.le_of_ble_eq_true rfl) rfl ?_
  intro G X hret
  change G 0 0 0 [(0, .int p0), (1, .int p1), (2, .int p2), (3, .int p3)] [] []
  unfold F_X0_grow at h
  have k12 : ∀ (x0 : Int32) (x2 : Int32) (s0 : Int32) (s1 : Int32), F_X0_grow_12 post x0 x2 s0 s1 → G 0 0 12 [(0, .int x0), (2, .int x2)] [.int s1, .int s0] [] := by
    intro x0 x2 s0 s1 h
    unfold F_X0_grow_12 at h
    have k18 : ∀ (n18 : Nat) (x0 : Int32) (x2 : Int32) (x4 : Int32) (x5 : Int32), F_X0_grow_18 post n18 x0 x2 x4 x5 → G 0 0 18 [(0, .int x0), (2, .int x2), (4, .int x4), (5, .int x5)] [] [] := by
      intro n18
      induction n18 with
      | zero => intro x0 x2 x4 x5 h; exact h.elim
      | succ n18 ih18 =>
        intro x0 x2 x4 x5 h
        rw [F_X0_grow_18] at h
        refine x_iload X dX0_grow_18 3 rfl ?_
        refine x_iload_n X dX0_grow_20 0 rfl ?_
        refine x_icmp_ge (tgt := 43) X dX0_grow_21 (by decide) (fun hc => ?_) (fun hc => ?_)
        · have h := h.1 hc
          refine x_iload X dX0_grow_43 2 rfl ?_
          exact hret _ _ _ _ dX0_grow_45 rfl ⟨rfl, h⟩
        · have h := h.2 hc
          refine x_iload X dX0_grow_24 2 rfl ?_
          refine x_iconst (v := 1) X dX0_grow_26 (by decide) ?_
          refine x_ishl X dX0_grow_27 ?_
          refine x_iload_n X dX0_grow_28 1 rfl ?_
          refine x_iload X dX0_grow_29 3 rfl ?_
          refine x_ishr X dX0_grow_31 ?_
          refine x_iconst (v := 1) X dX0_grow_32 (by decide) ?_
          refine x_iand X dX0_grow_33 ?_
          refine x_ior X dX0_grow_34 ?_
          refine x_topi X (fun x4_35 e_x4_35 => ?_)
          have h := h x4_35 e_x4_35
          refine x_istore (lv' := [(4, .int x4_35), (0, .int x0), (2, .int x2), (5, .int x5)]) X dX0_grow_35 (by decide) rfl ?_
          refine x_iinc (v := (x5 + 1)) (lv' := [(5, .int (x5 + 1)), (4, .int x4_35), (0, .int x0), (2, .int x2)]) X dX0_grow_37 3 rfl rfl (by decide) rfl ?_
          refine x_goto (tgt := 18) X dX0_grow_40 (by decide) ?_
          exact x_sub X [2, 3, 1, 0] rfl (ih18 x0 x2 x4_35 (x5 + 1) h)
    refine x_ior X dX0_grow_12 ?_
    refine x_istore (lv' := [(4, .int (s0 ||| s1)), (0, .int x0), (2, .int x2)]) X dX0_grow_13 (by decide) rfl ?_
    refine x_iconst (v := 0) X dX0_grow_15 (by decide) ?_
    refine x_istore (lv' := [(5, .int (0 : Int32)), (4, .int (s0 ||| s1)), (0, .int x0), (2, .int x2)]) X dX0_grow_16 (by decide) rfl ?_
    obtain ⟨n18, h⟩ := h
    exact x_sub X [2, 3, 1, 0] rfl (k18 n18 x0 x2 (s0 ||| s1) (0 : Int32) h)
  refine x_iload_n X dX0_grow_0 1 rfl ?_
  refine x_iconst (v := 1) X dX0_grow_1 (by decide) ?_
  refine x_ishl X dX0_grow_2 ?_
  refine x_iload_n X dX0_grow_3 3 rfl ?_
  refine x_if_eq (tgt := 11) X dX0_grow_4 (by decide) (fun hc => ?_) (fun hc => ?_)
  · have h := h.1 hc
    refine x_iconst (v := 0) X dX0_grow_11 (by decide) ?_
    exact x_sub X [0, 2] rfl (k12 p0 p2 (p1 <<< ((1 : Int32) &&& 31)) (0 : Int32) h)
  · have h := h.2 hc
    refine x_iconst (v := 1) X dX0_grow_7 (by decide) ?_
    refine x_goto (tgt := 12) X dX0_grow_8 (by decide) ?_
    exact x_sub X [0, 2] rfl (k12 p0 p2 (p1 <<< ((1 : Int32) &&& 31)) (1 : Int32) h)
theorem dX0_part_0 : decode cX0_part 0 = .ok (.iconst 0, 1) := by decide +kernel
theorem dX0_part_1 : decode cX0_part 1 = .ok (.istore_n 3, 1) := by decide +kernel
theorem dX0_part_2 : decode cX0_part 2 = .ok (.iconst 0, 1) := by decide +kernel
theorem dX0_part_3 : decode cX0_part 3 = .ok (.istore 4, 2) := by decide +kernel
theorem dX0_part_5 : decode cX0_part 5 = .ok (.iload 4, 2) := by decide +kernel
theorem dX0_part_7 : decode cX0_part 7 = .ok (.iload_n 0, 1) := by decide +kernel
theorem dX0_part_8 : decode cX0_part 8 = .ok (.if_icmp .ge 89, 3) := by decide +kernel
theorem dX0_part_11 : decode cX0_part 11 = .ok (.iload_n 2, 1) := by decide +kernel
theorem dX0_part_12 : decode cX0_part 12 = .ok (.iload 4, 2) := by decide +kernel
theorem dX0_part_14 : decode cX0_part 14 = .ok (.ishr, 1) := by decide +kernel
theorem dX0_part_15 : decode cX0_part 15 = .ok (.iconst 1, 1) := by decide +kernel
theorem dX0_part_16 : decode cX0_part 16 = .ok (.iand, 1) := by decide +kernel
theorem dX0_part_17 : decode cX0_part 17 = .ok (.iconst 1, 1) := by decide +kernel
theorem dX0_part_18 : decode cX0_part 18 = .ok (.if_icmp .ne 73, 3) := by decide +kernel
theorem dX0_part_21 : decode cX0_part 21 = .ok (.iload_n 3, 1) := by decide +kernel
theorem dX0_part_22 : decode cX0_part 22 = .ok (.iconst 1, 1) := by decide +kernel
theorem dX0_part_23 : decode cX0_part 23 = .ok (.ishl, 1) := by decide +kernel
theorem dX0_part_24 : decode cX0_part 24 = .ok (.iload_n 1, 1) := by decide +kernel
theorem dX0_part_25 : decode cX0_part 25 = .ok (.iload_n 0, 1) := by decide +kernel
theorem dX0_part_26 : decode cX0_part 26 = .ok (.iload 4, 2) := by decide +kernel
theorem dX0_part_28 : decode cX0_part 28 = .ok (.invokestatic 22, 3) := by decide +kernel
theorem dX0_part_31 : decode cX0_part 31 = .ok (.iand, 1) := by decide +kernel
theorem dX0_part_32 : decode cX0_part 32 = .ok (.ifCond .eq 7, 3) := by decide +kernel
theorem dX0_part_35 : decode cX0_part 35 = .ok (.iconst 1, 1) := by decide +kernel
theorem dX0_part_36 : decode cX0_part 36 = .ok (.goto 4, 3) := by decide +kernel
theorem dX0_part_39 : decode cX0_part 39 = .ok (.iconst 0, 1) := by decide +kernel
theorem dX0_part_40 : decode cX0_part 40 = .ok (.ior, 1) := by decide +kernel
theorem dX0_part_41 : decode cX0_part 41 = .ok (.istore_n 3, 1) := by decide +kernel
theorem dX0_part_42 : decode cX0_part 42 = .ok (.iconst 0, 1) := by decide +kernel
theorem dX0_part_43 : decode cX0_part 43 = .ok (.istore 5, 2) := by decide +kernel
theorem dX0_part_45 : decode cX0_part 45 = .ok (.iload 5, 2) := by decide +kernel
theorem dX0_part_47 : decode cX0_part 47 = .ok (.iload 4, 2) := by decide +kernel
theorem dX0_part_49 : decode cX0_part 49 = .ok (.if_icmp .ge 42, 3) := by decide +kernel
theorem dX0_part_52 : decode cX0_part 52 = .ok (.iload_n 2, 1) := by decide +kernel
theorem dX0_part_53 : decode cX0_part 53 = .ok (.iload 5, 2) := by decide +kernel
theorem dX0_part_55 : decode cX0_part 55 = .ok (.ishr, 1) := by decide +kernel
theorem dX0_part_56 : decode cX0_part 56 = .ok (.iconst 1, 1) := by decide +kernel
theorem dX0_part_57 : decode cX0_part 57 = .ok (.iand, 1) := by decide +kernel
theorem dX0_part_58 : decode cX0_part 58 = .ok (.iconst 1, 1) := by decide +kernel
theorem dX0_part_59 : decode cX0_part 59 = .ok (.if_icmp .ne 26, 3) := by decide +kernel
theorem dX0_part_62 : decode cX0_part 62 = .ok (.iload_n 3, 1) := by decide +kernel
theorem dX0_part_63 : decode cX0_part 63 = .ok (.iconst 1, 1) := by decide +kernel
theorem dX0_part_64 : decode cX0_part 64 = .ok (.ishl, 1) := by decide +kernel
theorem dX0_part_65 : decode cX0_part 65 = .ok (.iload_n 1, 1) := by decide +kernel
theorem dX0_part_66 : decode cX0_part 66 = .ok (.iload_n 0, 1) := by decide +kernel
theorem dX0_part_67 : decode cX0_part 67 = .ok (.iload 5, 2) := by decide +kernel
theorem dX0_part_69 : decode cX0_part 69 = .ok (.iload 4, 2) := by decide +kernel
theorem dX0_part_71 : decode cX0_part 71 = .ok (.invokestatic 28, 3) := by decide +kernel
theorem dX0_part_74 : decode cX0_part 74 = .ok (.iand, 1) := by decide +kernel
theorem dX0_part_75 : decode cX0_part 75 = .ok (.ifCond .eq 7, 3) := by decide +kernel
theorem dX0_part_78 : decode cX0_part 78 = .ok (.iconst 1, 1) := by decide +kernel
theorem dX0_part_79 : decode cX0_part 79 = .ok (.goto 4, 3) := by decide +kernel
theorem dX0_part_82 : decode cX0_part 82 = .ok (.iconst 0, 1) := by decide +kernel
theorem dX0_part_83 : decode cX0_part 83 = .ok (.ior, 1) := by decide +kernel
theorem dX0_part_84 : decode cX0_part 84 = .ok (.istore_n 3, 1) := by decide +kernel
theorem dX0_part_85 : decode cX0_part 85 = .ok (.iinc 5 1, 3) := by decide +kernel
theorem dX0_part_88 : decode cX0_part 88 = .ok (.goto (-43), 3) := by decide +kernel
theorem dX0_part_91 : decode cX0_part 91 = .ok (.iinc 4 1, 3) := by decide +kernel
theorem dX0_part_94 : decode cX0_part 94 = .ok (.goto (-89), 3) := by decide +kernel
theorem dX0_part_97 : decode cX0_part 97 = .ok (.iload_n 3, 1) := by decide +kernel
theorem dX0_part_98 : decode cX0_part 98 = .ok (.ireturn, 1) := by decide +kernel
set_option maxHeartbeats 4000000 in
set_option maxRecDepth 100000 in
theorem c_X0_part (l : Launch) (D : eD) (T : Nat → ClassId)  (p0 : Int32) (p1 : Int32) (p2 : Int32) (post : Int32 → Prop) (h : F_X0_part p0 p1 p2 post) : cI l D T yX0_part cX0_part 6 (some .int) 2 72 0 0 [.int p0, .int p1, .int p2] [] (fun r w1 => w1 = [] ∧ post r ) := by
  refine xI_of (ty := .int) (by decide +kernel) (Nat.le_of_ble_eq_true rfl) rfl ?_
  intro G X hret
  change G 0 0 0 [(0, .int p0), (1, .int p1), (2, .int p2)] [] []
  unfold F_X0_part at h
  have k5 : ∀ (n5 : Nat) (x0 : Int32) (x1 : Int32) (x2 : Int32) (x3 : Int32) (x4 : Int32), F_X0_part_5 post n5 x0 x1 x2 x3 x4 → G 0 0 5 [(0, .int x0), (1, .int x1), (2, .int x2), (3, .int x3), (4, .int x4)] [] [] := by
    intro n5
    induction n5 with
    | zero => intro x0 x1 x2 x3 x4 h; exact h.elim
    | succ n5 ih5 =>
      intro x0 x1 x2 x3 x4 h
      rw [F_X0_part_5] at h
      have k91 : ∀ (x0 : Int32) (x1 : Int32) (x2 : Int32) (x3 : Int32) (x4 : Int32), F_X0_part_91 post (F_X0_part_5 post n5) x0 x1 x2 x3 x4 → G 0 0 91 [(0, .int x0), (1, .int x1), (2, .int x2), (3, .int x3), (4, .int x4)] [] [] := by
        intro x0 x1 x2 x3 x4 h
        unfold F_X0_part_91 at h
        refine x_iinc (v := (x4 + 1)) (lv' := [(4, .int (x4 + 1)), (0, .int x0), (1, .int x1), (2, .int x2), (3, .int x3)]) X dX0_part_91 4 rfl rfl (by decide) rfl ?_
        refine x_goto (tgt := 5) X dX0_part_94 (by decide) ?_
        exact x_sub X [1, 2, 3, 4, 0] rfl (ih5 x0 x1 x2 x3 (x4 + 1) h)
      have k40 : ∀ (x0 : Int32) (x1 : Int32) (x2 : Int32) (x4 : Int32) (s0 : Int32) (s1 : Int32), F_X0_part_40 post (fun x0 x1 x2 x3 x4 => F_X0_part_91 post (F_X0_part_5 post n5) x0 x1 x2 x3 x4) x0 x1 x2 x4 s0 s1 → G 0 0 40 [(0, .int x0), (1, .int x1), (2, .int x2), (4, .int x4)] [.int s1, .int s0] [] := by
        intro x0 x1 x2 x4 s0 s1 h
        unfold F_X0_part_40 at h
        have k45 : ∀ (n45 : Nat) (x0 : Int32) (x1 : Int32) (x2 : Int32) (x3 : Int32) (x4 : Int32) (x5 : Int32), F_X0_part_45 post (fun x0 x1 x2 x3 x4 => F_X0_part_91 post (F_X0_part_5 post n5) x0 x1 x2 x3 x4) n45 x0 x1 x2 x3 x4 x5 → G 0 0 45 [(0, .int x0), (1, .int x1), (2, .int x2), (3, .int x3), (4, .int x4), (5, .int x5)] [] [] := by
          intro n45
          induction n45 with
          | zero => intro x0 x1 x2 x3 x4 x5 h; exact h.elim
          | succ n45 ih45 =>
            intro x0 x1 x2 x3 x4 x5 h
            rw [F_X0_part_45] at h
            have k85 : ∀ (x0 : Int32) (x1 : Int32) (x2 : Int32) (x3 : Int32) (x4 : Int32) (x5 : Int32), F_X0_part_85 post (F_X0_part_45 post (fun x0 x1 x2 x3 x4 => F_X0_part_91 post (F_X0_part_5 post n5) x0 x1 x2 x3 x4) n45) x0 x1 x2 x3 x4 x5 → G 0 0 85 [(0, .int x0), (1, .int x1), (2, .int x2), (3, .int x3), (4, .int x4), (5, .int x5)] [] [] := by
              intro x0 x1 x2 x3 x4 x5 h
              unfold F_X0_part_85 at h
              refine x_iinc (v := (x5 + 1)) (lv' := [(5, .int (x5 + 1)), (0, .int x0), (1, .int x1), (2, .int x2), (3, .int x3), (4, .int x4)]) X dX0_part_85 5 rfl rfl (by decide) rfl ?_
              refine x_goto (tgt := 45) X dX0_part_88 (by decide) ?_
              exact x_sub X [1, 2, 3, 4, 5, 0] rfl (ih45 x0 x1 x2 x3 x4 (x5 + 1) h)
            have k83 : ∀ (x0 : Int32) (x1 : Int32) (x2 : Int32) (x4 : Int32) (x5 : Int32) (s0 : Int32) (s1 : Int32), F_X0_part_83 post (fun x0 x1 x2 x3 x4 x5 => F_X0_part_85 post (F_X0_part_45 post (fun x0 x1 x2 x3 x4 => F_X0_part_91 post (F_X0_part_5 post n5) x0 x1 x2 x3 x4) n45) x0 x1 x2 x3 x4 x5) x0 x1 x2 x4 x5 s0 s1 → G 0 0 83 [(0, .int x0), (1, .int x1), (2, .int x2), (4, .int x4), (5, .int x5)] [.int s1, .int s0] [] := by
              intro x0 x1 x2 x4 x5 s0 s1 h
              unfold F_X0_part_83 at h
              refine x_ior X dX0_part_83 ?_
              refine x_istore_n (lv' := [(3, .int (s0 ||| s1)), (0, .int x0), (1, .int x1), (2, .int x2), (4, .int x4), (5, .int x5)]) X dX0_part_84 (by decide) rfl ?_
              exact x_sub X [1, 2, 3, 0, 4, 5] rfl (k85 x0 x1 x2 (s0 ||| s1) x4 x5 h)
            refine x_iload X dX0_part_45 5 rfl ?_
            refine x_iload X dX0_part_47 4 rfl ?_
            refine x_icmp_ge (tgt := 91) X dX0_part_49 (by decide) (fun hc => ?_) (fun hc => ?_)
            · have h := h.1 hc
              exact x_sub X [0, 1, 2, 3, 4] rfl (k91 x0 x1 x2 x3 x4 h)
            · have h := h.2 hc
              refine x_iload_n X dX0_part_52 2 rfl ?_
              refine x_iload X dX0_part_53 5 rfl ?_
              refine x_ishr X dX0_part_55 ?_
              refine x_iconst (v := 1) X dX0_part_56 (by decide) ?_
              refine x_iand X dX0_part_57 ?_
              refine x_iconst (v := 1) X dX0_part_58 (by decide) ?_
              refine x_icmp_ne (tgt := 85) X dX0_part_59 (by decide) (fun hc => ?_) (fun hc => ?_)
              · have h := h.1 hc
                exact x_sub X [0, 1, 2, 3, 4, 5] rfl (k85 x0 x1 x2 x3 x4 x5 h)
              · have h := h.2 hc
                refine x_iload_n X dX0_part_62 3 rfl ?_
                refine x_iconst (v := 1) X dX0_part_63 (by decide) ?_
                refine x_ishl X dX0_part_64 ?_
                refine x_iload_n X dX0_part_65 1 rfl ?_
                refine x_iload_n X dX0_part_66 0 rfl ?_
                refine x_iload X dX0_part_67 5 rfl ?_
                refine x_iload X dX0_part_69 4 rfl ?_
                refine x_callSI (av := [.int x0, .int x5, .int x4]) (st := [.int x1, .int (x3 <<< ((1 : Int32) &&& 31))]) (wr := []) X (c_X0_edge l D T  x0 x5 x4 _ h) yk_X0_edge tw_444 dX0_part_71 [] [] rfl rfl rfl rfl (by decide) rfl rfl (Nat.le_of_ble_eq_true rfl) (Nat.le_of_ble_eq_true rfl) (Nat.le_of_ble_eq_true rfl) (Nat.zero_le _) (Nat.zero_le _) (fun r71 w1 hw => ?_)
                obtain ⟨rfl, h⟩ := hw
                refine x_iand X dX0_part_74 ?_
                refine x_if_eq (tgt := 82) X dX0_part_75 (by decide) (fun hc => ?_) (fun hc => ?_)
                · have h := h.1 hc
                  refine x_iconst (v := 0) X dX0_part_82 (by decide) ?_
                  exact x_sub X [0, 1, 2, 4, 5] rfl (k83 x0 x1 x2 x4 x5 (x3 <<< ((1 : Int32) &&& 31)) (0 : Int32) h)
                · have h := h.2 hc
                  refine x_iconst (v := 1) X dX0_part_78 (by decide) ?_
                  refine x_goto (tgt := 83) X dX0_part_79 (by decide) ?_
                  exact x_sub X [0, 1, 2, 4, 5] rfl (k83 x0 x1 x2 x4 x5 (x3 <<< ((1 : Int32) &&& 31)) (1 : Int32) h)
        refine x_ior X dX0_part_40 ?_
        refine x_istore_n (lv' := [(3, .int (s0 ||| s1)), (0, .int x0), (1, .int x1), (2, .int x2), (4, .int x4)]) X dX0_part_41 (by decide) rfl ?_
        refine x_iconst (v := 0) X dX0_part_42 (by decide) ?_
        refine x_istore (lv' := [(5, .int (0 : Int32)), (3, .int (s0 ||| s1)), (0, .int x0), (1, .int x1), (2, .int x2), (4, .int x4)]) X dX0_part_43 (by decide) rfl ?_
        obtain ⟨n45, h⟩ := h
        exact x_sub X [2, 3, 4, 1, 5, 0] rfl (k45 n45 x0 x1 x2 (s0 ||| s1) x4 (0 : Int32) h)
      refine x_iload X dX0_part_5 4 rfl ?_
      refine x_iload_n X dX0_part_7 0 rfl ?_
      refine x_icmp_ge (tgt := 97) X dX0_part_8 (by decide) (fun hc => ?_) (fun hc => ?_)
      · have h := h.1 hc
        refine x_iload_n X dX0_part_97 3 rfl ?_
        exact hret _ _ _ _ dX0_part_98 rfl ⟨rfl, h⟩
      · have h := h.2 hc
        refine x_iload_n X dX0_part_11 2 rfl ?_
        refine x_iload X dX0_part_12 4 rfl ?_
        refine x_ishr X dX0_part_14 ?_
        refine x_iconst (v := 1) X dX0_part_15 (by decide) ?_
        refine x_iand X dX0_part_16 ?_
        refine x_iconst (v := 1) X dX0_part_17 (by decide) ?_
        refine x_icmp_ne (tgt := 91) X dX0_part_18 (by decide) (fun hc => ?_) (fun hc => ?_)
        · have h := h.1 hc
          exact x_sub X [0, 1, 2, 3, 4] rfl (k91 x0 x1 x2 x3 x4 h)
        · have h := h.2 hc
          refine x_iload_n X dX0_part_21 3 rfl ?_
          refine x_iconst (v := 1) X dX0_part_22 (by decide) ?_
          refine x_ishl X dX0_part_23 ?_
          refine x_iload_n X dX0_part_24 1 rfl ?_
          refine x_iload_n X dX0_part_25 0 rfl ?_
          refine x_iload X dX0_part_26 4 rfl ?_
          refine x_callSI (av := [.int x0, .int x4]) (st := [.int x1, .int (x3 <<< ((1 : Int32) &&& 31))]) (wr := []) X (c_X0_dark l D T  x0 x4 _ h) yk_X0_dark tw_433 dX0_part_28 [] [] rfl rfl rfl rfl (by decide) rfl rfl (Nat.le_of_ble_eq_true rfl) (Nat.le_of_ble_eq_true rfl) (Nat.le_of_ble_eq_true rfl) (Nat.zero_le _) (Nat.zero_le _) (fun r28 w1 hw => ?_)
          obtain ⟨rfl, h⟩ := hw
          refine x_iand X dX0_part_31 ?_
          refine x_if_eq (tgt := 39) X dX0_part_32 (by decide) (fun hc => ?_) (fun hc => ?_)
          · have h := h.1 hc
            refine x_iconst (v := 0) X dX0_part_39 (by decide) ?_
            exact x_sub X [0, 1, 2, 4] rfl (k40 x0 x1 x2 x4 (x3 <<< ((1 : Int32) &&& 31)) (0 : Int32) h)
          · have h := h.2 hc
            refine x_iconst (v := 1) X dX0_part_35 (by decide) ?_
            refine x_goto (tgt := 40) X dX0_part_36 (by decide) ?_
            exact x_sub X [0, 1, 2, 4] rfl (k40 x0 x1 x2 x4 (x3 <<< ((1 : Int32) &&& 31)) (1 : Int32) h)
  refine x_iconst (v := 0) X dX0_part_0 (by decide) ?_
  refine x_istore_n (lv' := [(3, .int (0 : Int32)), (0, .int p0), (1, .int p1), (2, .int p2)]) X dX0_part_1 (by decide) rfl ?_
  refine x_iconst (v := 0) X dX0_part_2 (by decide) ?_
  refine x_istore (lv' := [(4, .int (0 : Int32)), (3, .int (0 : Int32)), (0, .int p0), (1, .int p1), (2, .int p2)]) X dX0_part_3 (by decide) rfl ?_
  obtain ⟨n5, h⟩ := h
  exact x_sub X [2, 3, 4, 1, 0] rfl (k5 n5 p0 p1 p2 (0 : Int32) (0 : Int32) h)
